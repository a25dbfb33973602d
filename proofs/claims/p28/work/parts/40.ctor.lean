theorem dX8_init_0 : decode cX8_init 0 = .ok (.aload_n 0, 1) := by decide +kernel
theorem dX8_init_1 : decode cX8_init 1 = .ok (.invokespecial 3, 3) := by decide +kernel
theorem dX8_init_4 : decode cX8_init 4 = .ok (.aload_n 0, 1) := by decide +kernel
theorem dX8_init_5 : decode cX8_init 5 = .ok (.sipush 200, 3) := by decide +kernel
theorem dX8_init_8 : decode cX8_init 8 = .ok (.newarray .int, 2) := by decide +kernel
theorem dX8_init_10 : decode cX8_init 10 = .ok (.putfield 9, 3) := by decide +kernel
theorem dX8_init_13 : decode cX8_init 13 = .ok (.aload_n 0, 1) := by decide +kernel
theorem dX8_init_14 : decode cX8_init 14 = .ok (.iconst 0, 1) := by decide +kernel
theorem dX8_init_15 : decode cX8_init 15 = .ok (.putfield 15, 3) := by decide +kernel
theorem dX8_init_18 : decode cX8_init 18 = .ok (.return_, 1) := by decide +kernel
def f_X8_init (σ : ml_St) (Q : ml_St → Prop) : Prop :=
(∀ j : Int, σ 3 j = 0) ∧
∀ σ2, σ2 = ml_up σ 2 0 3 →
∀ σ3, σ3 = ml_up σ2 2 1 0 →
Q σ3
def rm_X8_init : Room := { frames := 1, cells := 1, slots := 200, locals := 60 }
set_option maxRecDepth 100000 in
set_option maxHeartbeats 4000000 in
theorem c_X8_init (l : Launch) (base : Nat) (D : va_G) (cA : Nat → ClassId) (σ : ml_St) (Q : ml_St → Prop) (hw : f_X8_init σ Q) : Met l yX8_init (Cond.code yX8_init cX8_init 1 none :: ml_T) rm_X8_init (va_Pc [.ref (base + (2 : Int).toNat)] (ml_UC base D cA 2 σ)) (ml_QC base D cA (2 + 1) Q) 1 200 (ml_A base) := by
  refine Met.ofW (cc := cX8_init) (maxL := 1) (ret := none) (by decide) rfl ?_
  intro p e s m args below meth c s₁ B hml hv
  obtain ⟨rfl, ⟨hP, hK, hok⟩, hs, hNN⟩ := hv
  have hini : meth.name = "<init>" := (name_of_methodNamed B.named B.method).1
  have X : ml_X p s m c meth _ D cA cX8_init 1 RX8 none := ⟨B.exec, B.bytes, hml, findClass_of_methodNamed B.named, fun w hw => atoms_spec (ws := Cond.code yX8_init cX8_init 1 none :: ml_T) B.pre w (List.mem_cons_of_mem _ hw), hK, B.notSynchronized, B.returns⟩
  have hl := lv_entry [.ref (base + (2 : Int).toNat)] (n := 1) (Nat.le_of_ble_eq_true rfl)
  rw [lg_entry_eq]
  generalize (lg_sl [.ref (base + (2 : Int).toNat)] ++ List.replicate (1 - (lg_sl [.ref (base + (2 : Int).toNat)]).length) Slot.unset).toArray = ls at hl ⊢
  have hl : lv_has ls 1 [(0, .ref (base + (2 : Int).toNat))] := hl
  unfold f_X8_init at hw
  suffices hV : ml_V p l e rm_X8_init s m [.ref (base + (2 : Int).toNat)].toArray below meth c (MQ below (ml_QC base D cA (2 + 1) Q) [.ref (base + (2 : Int).toNat)].toArray s 1 200 (ml_A base)) base D cA 0 0 0 (2 + 0) σ (F0 m 0 ls []) from hV s.heap [] hP va_S.rf hok ml_RO0
  refine ml_aload_n (pc := 0) X hl 0 rfl rfl dX8_init_0 ?_
  refine ml_objInit (pc := 1) X ⟨tw_1_31, tw_1_24, tw_1_25⟩ hl ⟨by decide, by decide⟩ (Nat.le_of_ble_eq_true rfl) dX8_init_1 ?_
  refine ml_aload_n (pc := 4) X hl 0 rfl rfl dX8_init_4 ?_
  refine ml_sipush (pc := 5) X dX8_init_5 (by decide) ?_
  obtain ⟨z1, hw⟩ := hw
  refine ml_newA (n0 := 2) (kc := 0) (ks := 0) (pc := 8) (k := 3) X hs .int .int 1 200 tw_1_42 rfl rfl (fun _ _ h => h) (200, .inl (fun _ => 0)) (fun _ => rfl) (by omega) (by omega) (by decide +kernel) (fun f hf => by show _ = _; unfold ml_cell; simp only [hf]; rfl) z1 (by decide) (by decide) ⟨by decide, by decide⟩ dX8_init_8 ?_
  refine ml_putF (pc := 10) (x := 3) (k := 2) X hini in_X8 rfl (by decide) tk_X8 nmX8 0 (by decide) rfl rfl tw_1_32 (ml_k2 (by decide)) dX8_init_10 (ml_fvA (by omega)) (show (0 : Int) ≤ 3 by omega) rfl rfl (Or.inl (by omega)) (fun σ2 g2 => ?_)
  have hw := hw σ2 g2
  refine ml_aload_n (pc := 13) X hl 0 rfl rfl dX8_init_13 ?_
  refine ml_iconst (pc := 14) X dX8_init_14 ?_
  refine ml_putg (pc := 15) (x := 0) (k := 2) X in_X8 rfl (by decide) tk_X8 nmX8 1 (by decide) rfl tw_1_35 (ml_k2 (by decide)) dX8_init_15 rfl ⟨by decide, by decide⟩ rfl rfl (Or.inl (by omega)) (fun σ3 g3 => ?_)
  have hw := hw σ3 g3
  exact ml_vretC (pc := 18) X hw dX8_init_18
theorem dX0_init_0 : decode cX0_init 0 = .ok (.aload_n 0, 1) := by decide +kernel
theorem dX0_init_1 : decode cX0_init 1 = .ok (.invokespecial 3, 3) := by decide +kernel
theorem dX0_init_4 : decode cX0_init 4 = .ok (.aload_n 0, 1) := by decide +kernel
theorem dX0_init_5 : decode cX0_init 5 = .ok (.bipush 10, 2) := by decide +kernel
theorem dX0_init_7 : decode cX0_init 7 = .ok (.newarray .int, 2) := by decide +kernel
theorem dX0_init_9 : decode cX0_init 9 = .ok (.putfield 9, 3) := by decide +kernel
theorem dX0_init_12 : decode cX0_init 12 = .ok (.aload_n 0, 1) := by decide +kernel
theorem dX0_init_13 : decode cX0_init 13 = .ok (.iconst 0, 1) := by decide +kernel
theorem dX0_init_14 : decode cX0_init 14 = .ok (.putfield 15, 3) := by decide +kernel
theorem dX0_init_17 : decode cX0_init 17 = .ok (.return_, 1) := by decide +kernel
def f_X0_init (σ : ml_St) (Q : ml_St → Prop) : Prop :=
(∀ j : Int, σ 5 j = 0) ∧
∀ σ2, σ2 = ml_up σ 4 0 5 →
∀ σ3, σ3 = ml_up σ2 4 1 0 →
Q σ3
def rm_X0_init : Room := { frames := 1, cells := 1, slots := 10, locals := 60 }
set_option maxRecDepth 100000 in
set_option maxHeartbeats 4000000 in
theorem c_X0_init (l : Launch) (base : Nat) (D : va_G) (cA : Nat → ClassId) (σ : ml_St) (Q : ml_St → Prop) (hw : f_X0_init σ Q) : Met l yX0_init (Cond.code yX0_init cX0_init 1 none :: ml_T) rm_X0_init (va_Pc [.ref (base + (4 : Int).toNat)] (ml_UC base D cA 4 σ)) (ml_QC base D cA (4 + 1) Q) 1 10 (ml_A base) := by
  refine Met.ofW (cc := cX0_init) (maxL := 1) (ret := none) (by decide) rfl ?_
  intro p e s m args below meth c s₁ B hml hv
  obtain ⟨rfl, ⟨hP, hK, hok⟩, hs, hNN⟩ := hv
  have hini : meth.name = "<init>" := (name_of_methodNamed B.named B.method).1
  have X : ml_X p s m c meth _ D cA cX0_init 1 RX0 none := ⟨B.exec, B.bytes, hml, findClass_of_methodNamed B.named, fun w hw => atoms_spec (ws := Cond.code yX0_init cX0_init 1 none :: ml_T) B.pre w (List.mem_cons_of_mem _ hw), hK, B.notSynchronized, B.returns⟩
  have hl := lv_entry [.ref (base + (4 : Int).toNat)] (n := 1) (Nat.le_of_ble_eq_true rfl)
  rw [lg_entry_eq]
  generalize (lg_sl [.ref (base + (4 : Int).toNat)] ++ List.replicate (1 - (lg_sl [.ref (base + (4 : Int).toNat)]).length) Slot.unset).toArray = ls at hl ⊢
  have hl : lv_has ls 1 [(0, .ref (base + (4 : Int).toNat))] := hl
  unfold f_X0_init at hw
  suffices hV : ml_V p l e rm_X0_init s m [.ref (base + (4 : Int).toNat)].toArray below meth c (MQ below (ml_QC base D cA (4 + 1) Q) [.ref (base + (4 : Int).toNat)].toArray s 1 10 (ml_A base)) base D cA 0 0 0 (4 + 0) σ (F0 m 0 ls []) from hV s.heap [] hP va_S.rf hok ml_RO0
  refine ml_aload_n (pc := 0) X hl 0 rfl rfl dX0_init_0 ?_
  refine ml_objInit (pc := 1) X ⟨tw_1_48, tw_1_24, tw_1_25⟩ hl ⟨by decide, by decide⟩ (Nat.le_of_ble_eq_true rfl) dX0_init_1 ?_
  refine ml_aload_n (pc := 4) X hl 0 rfl rfl dX0_init_4 ?_
  refine ml_bipush (pc := 5) X dX0_init_5 (by decide) ?_
  obtain ⟨z1, hw⟩ := hw
  refine ml_newA (n0 := 4) (kc := 0) (ks := 0) (pc := 7) (k := 5) X hs .int .int 1 10 tw_1_42 rfl rfl (fun _ _ h => h) (10, .inl (fun _ => 0)) (fun _ => rfl) (by omega) (by omega) (by decide +kernel) (fun f hf => by show _ = _; unfold ml_cell; simp only [hf]; rfl) z1 (by decide) (by decide) ⟨by decide, by decide⟩ dX0_init_7 ?_
  refine ml_putF (pc := 9) (x := 5) (k := 4) X hini in_X0 rfl (by decide) tk_X0 nmX0 0 (by decide) rfl rfl tw_1_49 (ml_k4 (by decide)) dX0_init_9 (ml_fvA (by omega)) (show (0 : Int) ≤ 5 by omega) rfl rfl (Or.inl (by omega)) (fun σ2 g2 => ?_)
  have hw := hw σ2 g2
  refine ml_aload_n (pc := 12) X hl 0 rfl rfl dX0_init_12 ?_
  refine ml_iconst (pc := 13) X dX0_init_13 ?_
  refine ml_putg (pc := 14) (x := 0) (k := 4) X in_X0 rfl (by decide) tk_X0 nmX0 1 (by decide) rfl tw_1_50 (ml_k4 (by decide)) dX0_init_14 rfl ⟨by decide, by decide⟩ (ml_narz ⟨by decide, by decide⟩) (ml_fitz ⟨by decide, by decide⟩) (Or.inl (by omega)) (fun σ3 g3 => ?_)
  have hw := hw σ3 g3
  exact ml_vretC (pc := 17) X hw dX0_init_17
theorem dX2_init_0 : decode cX2_init 0 = .ok (.aload_n 0, 1) := by decide +kernel
theorem dX2_init_1 : decode cX2_init 1 = .ok (.invokespecial 3, 3) := by decide +kernel
theorem dX2_init_4 : decode cX2_init 4 = .ok (.aload_n 0, 1) := by decide +kernel
theorem dX2_init_5 : decode cX2_init 5 = .ok (.iconst 0, 1) := by decide +kernel
theorem dX2_init_6 : decode cX2_init 6 = .ok (.newarray .byte, 2) := by decide +kernel
theorem dX2_init_8 : decode cX2_init 8 = .ok (.putfield 9, 3) := by decide +kernel
theorem dX2_init_11 : decode cX2_init 11 = .ok (.aload_n 0, 1) := by decide +kernel
theorem dX2_init_12 : decode cX2_init 12 = .ok (.iconst 0, 1) := by decide +kernel
theorem dX2_init_13 : decode cX2_init 13 = .ok (.putfield 15, 3) := by decide +kernel
theorem dX2_init_16 : decode cX2_init 16 = .ok (.aload_n 0, 1) := by decide +kernel
theorem dX2_init_17 : decode cX2_init 17 = .ok (.iconst 0, 1) := by decide +kernel
theorem dX2_init_18 : decode cX2_init 18 = .ok (.putfield 19, 3) := by decide +kernel
theorem dX2_init_21 : decode cX2_init 21 = .ok (.aload_n 0, 1) := by decide +kernel
theorem dX2_init_22 : decode cX2_init 22 = .ok (.iconst 0, 1) := by decide +kernel
theorem dX2_init_23 : decode cX2_init 23 = .ok (.putfield 22, 3) := by decide +kernel
theorem dX2_init_26 : decode cX2_init 26 = .ok (.aload_n 0, 1) := by decide +kernel
theorem dX2_init_27 : decode cX2_init 27 = .ok (.iconst 0, 1) := by decide +kernel
theorem dX2_init_28 : decode cX2_init 28 = .ok (.putfield 25, 3) := by decide +kernel
theorem dX2_init_31 : decode cX2_init 31 = .ok (.aload_n 0, 1) := by decide +kernel
theorem dX2_init_32 : decode cX2_init 32 = .ok (.iconst 1, 1) := by decide +kernel
theorem dX2_init_33 : decode cX2_init 33 = .ok (.putfield 29, 3) := by decide +kernel
theorem dX2_init_36 : decode cX2_init 36 = .ok (.aload_n 0, 1) := by decide +kernel
theorem dX2_init_37 : decode cX2_init 37 = .ok (.iconst 0, 1) := by decide +kernel
theorem dX2_init_38 : decode cX2_init 38 = .ok (.putfield 32, 3) := by decide +kernel
theorem dX2_init_41 : decode cX2_init 41 = .ok (.return_, 1) := by decide +kernel
def f_X2_init (σ : ml_St) (Q : ml_St → Prop) : Prop :=
(∀ j : Int, σ 7 j = 0) ∧
∀ σ2, σ2 = ml_up σ 6 0 7 →
∀ σ3, σ3 = ml_up σ2 6 1 0 →
∀ σ4, σ4 = ml_up σ3 6 2 0 →
∀ σ5, σ5 = ml_up σ4 6 3 0 →
∀ σ6, σ6 = ml_up σ5 6 4 0 →
∀ σ7, σ7 = ml_up σ6 6 5 1 →
∀ σ8, σ8 = ml_up σ7 6 6 0 →
Q σ8
def rm_X2_init : Room := { frames := 1, cells := 1, slots := 0, locals := 60 }
set_option maxRecDepth 100000 in
set_option maxHeartbeats 4000000 in
theorem c_X2_init (l : Launch) (base : Nat) (D : va_G) (cA : Nat → ClassId) (σ : ml_St) (Q : ml_St → Prop) (hw : f_X2_init σ Q) : Met l yX2_init (Cond.code yX2_init cX2_init 1 none :: ml_T) rm_X2_init (va_Pc [.ref (base + (6 : Int).toNat)] (ml_UC base D cA 6 σ)) (ml_QC base D cA (6 + 1) Q) 1 0 (ml_A base) := by
  refine Met.ofW (cc := cX2_init) (maxL := 1) (ret := none) (by decide) rfl ?_
  intro p e s m args below meth c s₁ B hml hv
  obtain ⟨rfl, ⟨hP, hK, hok⟩, hs, hNN⟩ := hv
  have hini : meth.name = "<init>" := (name_of_methodNamed B.named B.method).1
  have X : ml_X p s m c meth _ D cA cX2_init 1 RX2 none := ⟨B.exec, B.bytes, hml, findClass_of_methodNamed B.named, fun w hw => atoms_spec (ws := Cond.code yX2_init cX2_init 1 none :: ml_T) B.pre w (List.mem_cons_of_mem _ hw), hK, B.notSynchronized, B.returns⟩
  have hl := lv_entry [.ref (base + (6 : Int).toNat)] (n := 1) (Nat.le_of_ble_eq_true rfl)
  rw [lg_entry_eq]
  generalize (lg_sl [.ref (base + (6 : Int).toNat)] ++ List.replicate (1 - (lg_sl [.ref (base + (6 : Int).toNat)]).length) Slot.unset).toArray = ls at hl ⊢
  have hl : lv_has ls 1 [(0, .ref (base + (6 : Int).toNat))] := hl
  unfold f_X2_init at hw
  suffices hV : ml_V p l e rm_X2_init s m [.ref (base + (6 : Int).toNat)].toArray below meth c (MQ below (ml_QC base D cA (6 + 1) Q) [.ref (base + (6 : Int).toNat)].toArray s 1 0 (ml_A base)) base D cA 0 0 0 (6 + 0) σ (F0 m 0 ls []) from hV s.heap [] hP va_S.rf hok ml_RO0
  refine ml_aload_n (pc := 0) X hl 0 rfl rfl dX2_init_0 ?_
  refine ml_objInit (pc := 1) X ⟨tw_1_62, tw_1_24, tw_1_25⟩ hl ⟨by decide, by decide⟩ (Nat.le_of_ble_eq_true rfl) dX2_init_1 ?_
  refine ml_aload_n (pc := 4) X hl 0 rfl rfl dX2_init_4 ?_
  refine ml_iconst (pc := 5) X dX2_init_5 ?_
  obtain ⟨z1, hw⟩ := hw
  refine ml_newA (n0 := 6) (kc := 0) (ks := 0) (pc := 6) (k := 7) X hs .byte .byte 2 0 tw_1_85 rfl rfl (fun _ _ h => h) (0, .inl (fun _ => 0)) (fun _ => rfl) (by omega) (by omega) (by decide +kernel) (fun f hf => by show _ = _; unfold ml_cell; simp only [hf]; rfl) z1 (by decide) (by decide) ⟨by decide, by decide⟩ dX2_init_6 ?_
  refine ml_putg (pc := 8) (x := 7) (k := 6) X in_X2 rfl (by decide) tk_X2 nmX2 0 (by decide) rfl tw_1_63 (ml_k6 (by decide)) dX2_init_8 (ml_fvA (by omega)) (show (0 : Int) ≤ 7 by omega) rfl rfl (Or.inl (by omega)) (fun σ2 g2 => ?_)
  have hw := hw σ2 g2
  refine ml_aload_n (pc := 11) X hl 0 rfl rfl dX2_init_11 ?_
  refine ml_iconst (pc := 12) X dX2_init_12 ?_
  refine ml_putg (pc := 13) (x := 0) (k := 6) X in_X2 rfl (by decide) tk_X2 nmX2 1 (by decide) rfl tw_1_64 (ml_k6 (by decide)) dX2_init_13 rfl ⟨by decide, by decide⟩ rfl rfl (Or.inl (by omega)) (fun σ3 g3 => ?_)
  have hw := hw σ3 g3
  refine ml_aload_n (pc := 16) X hl 0 rfl rfl dX2_init_16 ?_
  refine ml_iconst (pc := 17) X dX2_init_17 ?_
  refine ml_putg (pc := 18) (x := 0) (k := 6) X in_X2 rfl (by decide) tk_X2 nmX2 2 (by decide) rfl tw_1_65 (ml_k6 (by decide)) dX2_init_18 rfl ⟨by decide, by decide⟩ rfl rfl (Or.inl (by omega)) (fun σ4 g4 => ?_)
  have hw := hw σ4 g4
  refine ml_aload_n (pc := 21) X hl 0 rfl rfl dX2_init_21 ?_
  refine ml_iconst (pc := 22) X dX2_init_22 ?_
  refine ml_putg (pc := 23) (x := 0) (k := 6) X in_X2 rfl (by decide) tk_X2 nmX2 3 (by decide) rfl tw_1_66 (ml_k6 (by decide)) dX2_init_23 rfl ⟨by decide, by decide⟩ rfl rfl (Or.inl (by omega)) (fun σ5 g5 => ?_)
  have hw := hw σ5 g5
  refine ml_aload_n (pc := 26) X hl 0 rfl rfl dX2_init_26 ?_
  refine ml_iconst (pc := 27) X dX2_init_27 ?_
  refine ml_putg (pc := 28) (x := 0) (k := 6) X in_X2 rfl (by decide) tk_X2 nmX2 4 (by decide) rfl tw_1_67 (ml_k6 (by decide)) dX2_init_28 rfl ⟨by decide, by decide⟩ (ml_narz ⟨by decide, by decide⟩) (ml_fitz ⟨by decide, by decide⟩) (Or.inl (by omega)) (fun σ6 g6 => ?_)
  have hw := hw σ6 g6
  refine ml_aload_n (pc := 31) X hl 0 rfl rfl dX2_init_31 ?_
  refine ml_iconst (pc := 32) X dX2_init_32 ?_
  refine ml_putg (pc := 33) (x := 1) (k := 6) X in_X2 rfl (by decide) tk_X2 nmX2 5 (by decide) rfl tw_1_68 (ml_k6 (by decide)) dX2_init_33 rfl ⟨by decide, by decide⟩ (ml_narz ⟨by decide, by decide⟩) (ml_fitz ⟨by decide, by decide⟩) (Or.inl (by omega)) (fun σ7 g7 => ?_)
  have hw := hw σ7 g7
  refine ml_aload_n (pc := 36) X hl 0 rfl rfl dX2_init_36 ?_
  refine ml_iconst (pc := 37) X dX2_init_37 ?_
  refine ml_putg (pc := 38) (x := 0) (k := 6) X in_X2 rfl (by decide) tk_X2 nmX2 6 (by decide) rfl tw_1_69 (ml_k6 (by decide)) dX2_init_38 rfl ⟨by decide, by decide⟩ rfl rfl (Or.inl (by omega)) (fun σ8 g8 => ?_)
  have hw := hw σ8 g8
  exact ml_vretC (pc := 41) X hw dX2_init_41
theorem dX3_init_0 : decode cX3_init 0 = .ok (.aload_n 0, 1) := by decide +kernel
theorem dX3_init_1 : decode cX3_init 1 = .ok (.invokespecial 1, 3) := by decide +kernel
theorem dX3_init_4 : decode cX3_init 4 = .ok (.aload_n 0, 1) := by decide +kernel
theorem dX3_init_5 : decode cX3_init 5 = .ok (.iconst 0, 1) := by decide +kernel
theorem dX3_init_6 : decode cX3_init 6 = .ok (.newarray .byte, 2) := by decide +kernel
theorem dX3_init_8 : decode cX3_init 8 = .ok (.putfield 7, 3) := by decide +kernel
theorem dX3_init_11 : decode cX3_init 11 = .ok (.aload_n 0, 1) := by decide +kernel
theorem dX3_init_12 : decode cX3_init 12 = .ok (.iconst 0, 1) := by decide +kernel
theorem dX3_init_13 : decode cX3_init 13 = .ok (.putfield 13, 3) := by decide +kernel
theorem dX3_init_16 : decode cX3_init 16 = .ok (.aload_n 0, 1) := by decide +kernel
theorem dX3_init_17 : decode cX3_init 17 = .ok (.iconst 0, 1) := by decide +kernel
theorem dX3_init_18 : decode cX3_init 18 = .ok (.putfield 17, 3) := by decide +kernel
theorem dX3_init_21 : decode cX3_init 21 = .ok (.aload_n 0, 1) := by decide +kernel
theorem dX3_init_22 : decode cX3_init 22 = .ok (.iconst 0, 1) := by decide +kernel
theorem dX3_init_23 : decode cX3_init 23 = .ok (.putfield 20, 3) := by decide +kernel
theorem dX3_init_26 : decode cX3_init 26 = .ok (.aload_n 0, 1) := by decide +kernel
theorem dX3_init_27 : decode cX3_init 27 = .ok (.iconst 0, 1) := by decide +kernel
theorem dX3_init_28 : decode cX3_init 28 = .ok (.putfield 23, 3) := by decide +kernel
theorem dX3_init_31 : decode cX3_init 31 = .ok (.aload_n 0, 1) := by decide +kernel
theorem dX3_init_32 : decode cX3_init 32 = .ok (.iconst 1, 1) := by decide +kernel
theorem dX3_init_33 : decode cX3_init 33 = .ok (.putfield 26, 3) := by decide +kernel
theorem dX3_init_36 : decode cX3_init 36 = .ok (.return_, 1) := by decide +kernel
def f_X3_init (σ : ml_St) (Q : ml_St → Prop) : Prop :=
(∀ j : Int, σ 10 j = 0) ∧
∀ σ2, σ2 = ml_up σ 9 0 10 →
∀ σ3, σ3 = ml_up σ2 9 1 0 →
∀ σ4, σ4 = ml_up σ3 9 2 0 →
∀ σ5, σ5 = ml_up σ4 9 3 0 →
∀ σ6, σ6 = ml_up σ5 9 4 0 →
∀ σ7, σ7 = ml_up σ6 9 5 1 →
Q σ7
def rm_X3_init : Room := { frames := 1, cells := 1, slots := 0, locals := 60 }
set_option maxRecDepth 100000 in
set_option maxHeartbeats 4000000 in
theorem c_X3_init (l : Launch) (base : Nat) (D : va_G) (cA : Nat → ClassId) (σ : ml_St) (Q : ml_St → Prop) (hw : f_X3_init σ Q) : Met l yX3_init (Cond.code yX3_init cX3_init 1 none :: ml_T) rm_X3_init (va_Pc [.ref (base + (9 : Int).toNat)] (ml_UC base D cA 9 σ)) (ml_QC base D cA (9 + 1) Q) 1 0 (ml_A base) := by
  refine Met.ofW (cc := cX3_init) (maxL := 1) (ret := none) (by decide) rfl ?_
  intro p e s m args below meth c s₁ B hml hv
  obtain ⟨rfl, ⟨hP, hK, hok⟩, hs, hNN⟩ := hv
  have hini : meth.name = "<init>" := (name_of_methodNamed B.named B.method).1
  have X : ml_X p s m c meth _ D cA cX3_init 1 RX3 none := ⟨B.exec, B.bytes, hml, findClass_of_methodNamed B.named, fun w hw => atoms_spec (ws := Cond.code yX3_init cX3_init 1 none :: ml_T) B.pre w (List.mem_cons_of_mem _ hw), hK, B.notSynchronized, B.returns⟩
  have hl := lv_entry [.ref (base + (9 : Int).toNat)] (n := 1) (Nat.le_of_ble_eq_true rfl)
  rw [lg_entry_eq]
  generalize (lg_sl [.ref (base + (9 : Int).toNat)] ++ List.replicate (1 - (lg_sl [.ref (base + (9 : Int).toNat)]).length) Slot.unset).toArray = ls at hl ⊢
  have hl : lv_has ls 1 [(0, .ref (base + (9 : Int).toNat))] := hl
  unfold f_X3_init at hw
  suffices hV : ml_V p l e rm_X3_init s m [.ref (base + (9 : Int).toNat)].toArray below meth c (MQ below (ml_QC base D cA (9 + 1) Q) [.ref (base + (9 : Int).toNat)].toArray s 1 0 (ml_A base)) base D cA 0 0 0 (9 + 0) σ (F0 m 0 ls []) from hV s.heap [] hP va_S.rf hok ml_RO0
  refine ml_aload_n (pc := 0) X hl 0 rfl rfl dX3_init_0 ?_
  refine ml_objInit (pc := 1) X ⟨tw_1_97, tw_1_24, tw_1_25⟩ hl ⟨by decide, by decide⟩ (Nat.le_of_ble_eq_true rfl) dX3_init_1 ?_
  refine ml_aload_n (pc := 4) X hl 0 rfl rfl dX3_init_4 ?_
  refine ml_iconst (pc := 5) X dX3_init_5 ?_
  obtain ⟨z1, hw⟩ := hw
  refine ml_newA (n0 := 9) (kc := 0) (ks := 0) (pc := 6) (k := 10) X hs .byte .byte 2 0 tw_1_85 rfl rfl (fun _ _ h => h) (0, .inl (fun _ => 0)) (fun _ => rfl) (by omega) (by omega) (by decide +kernel) (fun f hf => by show _ = _; unfold ml_cell; simp only [hf]; rfl) z1 (by decide) (by decide) ⟨by decide, by decide⟩ dX3_init_6 ?_
  refine ml_putg (pc := 8) (x := 10) (k := 9) X in_X3 rfl (by decide) tk_X3 nmX3 0 (by decide) rfl tw_1_98 (ml_k9 (by decide)) dX3_init_8 (ml_fvA (by omega)) (show (0 : Int) ≤ 10 by omega) rfl rfl (Or.inl (by omega)) (fun σ2 g2 => ?_)
  have hw := hw σ2 g2
  refine ml_aload_n (pc := 11) X hl 0 rfl rfl dX3_init_11 ?_
  refine ml_iconst (pc := 12) X dX3_init_12 ?_
  refine ml_putg (pc := 13) (x := 0) (k := 9) X in_X3 rfl (by decide) tk_X3 nmX3 1 (by decide) rfl tw_1_99 (ml_k9 (by decide)) dX3_init_13 rfl ⟨by decide, by decide⟩ rfl rfl (Or.inl (by omega)) (fun σ3 g3 => ?_)
  have hw := hw σ3 g3
  refine ml_aload_n (pc := 16) X hl 0 rfl rfl dX3_init_16 ?_
  refine ml_iconst (pc := 17) X dX3_init_17 ?_
  refine ml_putg (pc := 18) (x := 0) (k := 9) X in_X3 rfl (by decide) tk_X3 nmX3 2 (by decide) rfl tw_1_100 (ml_k9 (by decide)) dX3_init_18 rfl ⟨by decide, by decide⟩ rfl rfl (Or.inl (by omega)) (fun σ4 g4 => ?_)
  have hw := hw σ4 g4
  refine ml_aload_n (pc := 21) X hl 0 rfl rfl dX3_init_21 ?_
  refine ml_iconst (pc := 22) X dX3_init_22 ?_
  refine ml_putg (pc := 23) (x := 0) (k := 9) X in_X3 rfl (by decide) tk_X3 nmX3 3 (by decide) rfl tw_1_101 (ml_k9 (by decide)) dX3_init_23 rfl ⟨by decide, by decide⟩ rfl rfl (Or.inl (by omega)) (fun σ5 g5 => ?_)
  have hw := hw σ5 g5
  refine ml_aload_n (pc := 26) X hl 0 rfl rfl dX3_init_26 ?_
  refine ml_iconst (pc := 27) X dX3_init_27 ?_
  refine ml_putg (pc := 28) (x := 0) (k := 9) X in_X3 rfl (by decide) tk_X3 nmX3 4 (by decide) rfl tw_1_103 (ml_k9 (by decide)) dX3_init_28 rfl ⟨by decide, by decide⟩ rfl rfl (Or.inl (by omega)) (fun σ6 g6 => ?_)
  have hw := hw σ6 g6
  refine ml_aload_n (pc := 31) X hl 0 rfl rfl dX3_init_31 ?_
  refine ml_iconst (pc := 32) X dX3_init_32 ?_
  refine ml_putg (pc := 33) (x := 1) (k := 9) X in_X3 rfl (by decide) tk_X3 nmX3 5 (by decide) rfl tw_1_105 (ml_k9 (by decide)) dX3_init_33 rfl ⟨by decide, by decide⟩ rfl rfl (Or.inl (by omega)) (fun σ7 g7 => ?_)
  have hw := hw σ7 g7
  exact ml_vretC (pc := 36) X hw dX3_init_36
theorem dX9_init_0 : decode cX9_init 0 = .ok (.aload_n 0, 1) := by decide +kernel
theorem dX9_init_1 : decode cX9_init 1 = .ok (.invokespecial 3, 3) := by decide +kernel
theorem dX9_init_4 : decode cX9_init 4 = .ok (.aload_n 0, 1) := by decide +kernel
theorem dX9_init_5 : decode cX9_init 5 = .ok (.bipush 10, 2) := by decide +kernel
theorem dX9_init_7 : decode cX9_init 7 = .ok (.newarray .int, 2) := by decide +kernel
theorem dX9_init_9 : decode cX9_init 9 = .ok (.putfield 9, 3) := by decide +kernel
theorem dX9_init_12 : decode cX9_init 12 = .ok (.aload_n 0, 1) := by decide +kernel
theorem dX9_init_13 : decode cX9_init 13 = .ok (.bipush 10, 2) := by decide +kernel
theorem dX9_init_15 : decode cX9_init 15 = .ok (.newarray .long, 2) := by decide +kernel
theorem dX9_init_17 : decode cX9_init 17 = .ok (.putfield 15, 3) := by decide +kernel
theorem dX9_init_20 : decode cX9_init 20 = .ok (.aload_n 0, 1) := by decide +kernel
theorem dX9_init_21 : decode cX9_init 21 = .ok (.lconst 0, 1) := by decide +kernel
theorem dX9_init_22 : decode cX9_init 22 = .ok (.putfield 19, 3) := by decide +kernel
theorem dX9_init_25 : decode cX9_init 25 = .ok (.aload_n 0, 1) := by decide +kernel
theorem dX9_init_26 : decode cX9_init 26 = .ok (.lconst 0, 1) := by decide +kernel
theorem dX9_init_27 : decode cX9_init 27 = .ok (.putfield 23, 3) := by decide +kernel
theorem dX9_init_30 : decode cX9_init 30 = .ok (.aload_n 0, 1) := by decide +kernel
theorem dX9_init_31 : decode cX9_init 31 = .ok (.lconst 0, 1) := by decide +kernel
theorem dX9_init_32 : decode cX9_init 32 = .ok (.putfield 26, 3) := by decide +kernel
theorem dX9_init_35 : decode cX9_init 35 = .ok (.aload_n 0, 1) := by decide +kernel
theorem dX9_init_36 : decode cX9_init 36 = .ok (.lconst 0, 1) := by decide +kernel
theorem dX9_init_37 : decode cX9_init 37 = .ok (.putfield 29, 3) := by decide +kernel
theorem dX9_init_40 : decode cX9_init 40 = .ok (.aload_n 0, 1) := by decide +kernel
theorem dX9_init_41 : decode cX9_init 41 = .ok (.iconst 0, 1) := by decide +kernel
theorem dX9_init_42 : decode cX9_init 42 = .ok (.putfield 32, 3) := by decide +kernel
theorem dX9_init_45 : decode cX9_init 45 = .ok (.aload_n 0, 1) := by decide +kernel
theorem dX9_init_46 : decode cX9_init 46 = .ok (.iconst 0, 1) := by decide +kernel
theorem dX9_init_47 : decode cX9_init 47 = .ok (.putfield 36, 3) := by decide +kernel
theorem dX9_init_50 : decode cX9_init 50 = .ok (.return_, 1) := by decide +kernel
def f_X9_init (σ : ml_St) (th : Int) (Q : ml_St → Prop) : Prop :=
(∀ j : Int, σ (th + 1) j = 0) ∧
∀ σ2, σ2 = ml_up σ th 0 (th + 1) →
(∀ j : Int, σ2 (th + 2) j = 0) ∧
∀ σ4, σ4 = ml_up σ2 th 1 (th + 2) →
∀ σ5, σ5 = ml_up σ4 th 2 0 →
∀ σ6, σ6 = ml_up σ5 th 3 0 →
∀ σ7, σ7 = ml_up σ6 th 4 0 →
∀ σ8, σ8 = ml_up σ7 th 5 0 →
∀ σ9, σ9 = ml_up σ8 th 6 0 →
∀ σ10, σ10 = ml_up σ9 th 7 0 →
Q σ10
def rm_X9_init : Room := { frames := 1, cells := 2, slots := 20, locals := 60 }
set_option maxRecDepth 100000 in
set_option maxHeartbeats 4000000 in
theorem c_X9_init (l : Launch) (base : Nat) (D : va_G) (cA : Nat → ClassId) (n : Nat) (th : Int) (hth : th = (n : Int)) (hlay : ml_lay th = (19, 8)) (σ : ml_St) (Q : ml_St → Prop) (hw : f_X9_init σ th Q) : Met l yX9_init (Cond.code yX9_init cX9_init 1 none :: ml_T) rm_X9_init (va_Pc [.ref (base + (th : Int).toNat)] (ml_UC base D cA n σ)) (ml_QC base D cA (n + 2) Q) 2 20 (ml_A base) := by
  refine Met.ofW (cc := cX9_init) (maxL := 1) (ret := none) (by decide) rfl ?_
  intro p e s m args below meth c s₁ B hml hv
  obtain ⟨rfl, ⟨hP, hK, hok⟩, hs, hNN⟩ := hv
  have hini : meth.name = "<init>" := (name_of_methodNamed B.named B.method).1
  have X : ml_X p s m c meth _ D cA cX9_init 1 RX9 none := ⟨B.exec, B.bytes, hml, findClass_of_methodNamed B.named, fun w hw => atoms_spec (ws := Cond.code yX9_init cX9_init 1 none :: ml_T) B.pre w (List.mem_cons_of_mem _ hw), hK, B.notSynchronized, B.returns⟩
  have h1 := (ml_lay_in hlay (by decide)).1
  have hr1 := ml_weaveK hlay
  have hl := lv_entry [.ref (base + (th : Int).toNat)] (n := 1) (Nat.le_of_ble_eq_true rfl)
  rw [lg_entry_eq]
  generalize (lg_sl [.ref (base + (th : Int).toNat)] ++ List.replicate (1 - (lg_sl [.ref (base + (th : Int).toNat)]).length) Slot.unset).toArray = ls at hl ⊢
  have hl : lv_has ls 1 [(0, .ref (base + (th : Int).toNat))] := hl
  unfold f_X9_init at hw
  suffices hV : ml_V p l e rm_X9_init s m [.ref (base + (th : Int).toNat)].toArray below meth c (MQ below (ml_QC base D cA (n + 2) Q) [.ref (base + (th : Int).toNat)].toArray s 2 20 (ml_A base)) base D cA 0 0 0 (n + 0) σ (F0 m 0 ls []) from hV s.heap [] hP va_S.rf hok ml_RO0
  refine ml_aload_n (pc := 0) X hl 0 rfl rfl dX9_init_0 ?_
  refine ml_objInit (pc := 1) X ⟨tw_1_126, tw_1_24, tw_1_25⟩ hl ⟨by decide, by decide⟩ (Nat.le_of_ble_eq_true rfl) dX9_init_1 ?_
  refine ml_aload_n (pc := 4) X hl 0 rfl rfl dX9_init_4 ?_
  refine ml_bipush (pc := 5) X dX9_init_5 (by decide) ?_
  obtain ⟨z1, hw⟩ := hw
  refine ml_newA (n0 := n) (kc := 0) (ks := 0) (pc := 7) (k := (th + 1)) X hs .int .int 1 10 tw_1_42 rfl rfl (fun _ _ h => h) (10, .inl (fun _ => 0)) (fun _ => rfl) (by omega) (by omega) hr1.2.1 (fun f hf => by show _ = _; unfold ml_cell; simp only [hf]; rfl) z1 (by decide) (by decide) ⟨by decide, by decide⟩ dX9_init_7 ?_
  refine ml_putF (pc := 9) (x := (th + 1)) (k := th) X hini in_X9 rfl (by decide) tk_X9 nmX9 0 (by decide) rfl rfl tw_1_127 ⟨by omega, by omega, hlay⟩ dX9_init_9 (ml_fvA (by omega)) (show (0 : Int) ≤ (th + 1) by omega) rfl rfl (Or.inl (by omega)) (fun σ2 g2 => ?_)
  have hw := hw σ2 g2
  refine ml_aload_n (pc := 12) X hl 0 rfl rfl dX9_init_12 ?_
  refine ml_bipush (pc := 13) X dX9_init_13 (by decide) ?_
  obtain ⟨z3, hw⟩ := hw
  refine ml_newA (n0 := n) (kc := 1) (ks := 10) (pc := 15) (k := (th + 2)) X hs .long .long 4 10 tw_1_165 rfl rfl (fun _ _ h => h) (10, .inr (.inl (fun _ => 0))) (fun _ => rfl) (by omega) (by omega) hr1.2.2 (fun f hf => by show _ = _; unfold ml_cell; simp only [hf]; rfl) z3 (by decide) (by decide) ⟨by decide, by decide⟩ dX9_init_15 ?_
  refine ml_putF (pc := 17) (x := (th + 2)) (k := th) X hini in_X9 rfl (by decide) tk_X9 nmX9 1 (by decide) rfl rfl tw_1_131 ⟨by omega, by omega, hlay⟩ dX9_init_17 (ml_fvA (by omega)) (show (0 : Int) ≤ (th + 2) by omega) rfl rfl (Or.inl (by omega)) (fun σ4 g4 => ?_)
  have hw := hw σ4 g4
  refine ml_aload_n (pc := 20) X hl 0 rfl rfl dX9_init_20 ?_
  refine ml_lconst0 (pc := 21) X dX9_init_21 ?_
  refine ml_putg (pc := 22) (x := 0) (k := th) X in_X9 rfl (by decide) tk_X9 nmX9 2 (by decide) rfl tw_1_133 ⟨by omega, by omega, hlay⟩ dX9_init_22 rfl ⟨by decide, by decide⟩ rfl rfl (Or.inl (by omega)) (fun σ5 g5 => ?_)
  have hw := hw σ5 g5
  refine ml_aload_n (pc := 25) X hl 0 rfl rfl dX9_init_25 ?_
  refine ml_lconst0 (pc := 26) X dX9_init_26 ?_
  refine ml_putg (pc := 27) (x := 0) (k := th) X in_X9 rfl (by decide) tk_X9 nmX9 3 (by decide) rfl tw_1_138 ⟨by omega, by omega, hlay⟩ dX9_init_27 rfl ⟨by decide, by decide⟩ rfl rfl (Or.inl (by omega)) (fun σ6 g6 => ?_)
  have hw := hw σ6 g6
  refine ml_aload_n (pc := 30) X hl 0 rfl rfl dX9_init_30 ?_
  refine ml_lconst0 (pc := 31) X dX9_init_31 ?_
  refine ml_putg (pc := 32) (x := 0) (k := th) X in_X9 rfl (by decide) tk_X9 nmX9 4 (by decide) rfl tw_1_140 ⟨by omega, by omega, hlay⟩ dX9_init_32 rfl ⟨by decide, by decide⟩ rfl rfl (Or.inl (by omega)) (fun σ7 g7 => ?_)
  have hw := hw σ7 g7
  refine ml_aload_n (pc := 35) X hl 0 rfl rfl dX9_init_35 ?_
  refine ml_lconst0 (pc := 36) X dX9_init_36 ?_
  refine ml_putg (pc := 37) (x := 0) (k := th) X in_X9 rfl (by decide) tk_X9 nmX9 5 (by decide) rfl tw_1_142 ⟨by omega, by omega, hlay⟩ dX9_init_37 rfl ⟨by decide, by decide⟩ rfl rfl (Or.inl (by omega)) (fun σ8 g8 => ?_)
  have hw := hw σ8 g8
  refine ml_aload_n (pc := 40) X hl 0 rfl rfl dX9_init_40 ?_
  refine ml_iconst (pc := 41) X dX9_init_41 ?_
  refine ml_putg (pc := 42) (x := 0) (k := th) X in_X9 rfl (by decide) tk_X9 nmX9 6 (by decide) rfl tw_1_144 ⟨by omega, by omega, hlay⟩ dX9_init_42 rfl ⟨by decide, by decide⟩ (ml_narz ⟨by decide, by decide⟩) (ml_fitz ⟨by decide, by decide⟩) (Or.inl (by omega)) (fun σ9 g9 => ?_)
  have hw := hw σ9 g9
  refine ml_aload_n (pc := 45) X hl 0 rfl rfl dX9_init_45 ?_
  refine ml_iconst (pc := 46) X dX9_init_46 ?_
  refine ml_putg (pc := 47) (x := 0) (k := th) X in_X9 rfl (by decide) tk_X9 nmX9 7 (by decide) rfl tw_1_146 ⟨by omega, by omega, hlay⟩ dX9_init_47 rfl ⟨by decide, by decide⟩ (ml_narz ⟨by decide, by decide⟩) (ml_fitz ⟨by decide, by decide⟩) (Or.inl (by omega)) (fun σ10 g10 => ?_)
  have hw := hw σ10 g10
  exact ml_vretC (pc := 50) X hw dX9_init_50
theorem dX4_init_0 : decode cX4_init 0 = .ok (.aload_n 0, 1) := by decide +kernel
theorem dX4_init_1 : decode cX4_init 1 = .ok (.invokespecial 3, 3) := by decide +kernel
theorem dX4_init_4 : decode cX4_init 4 = .ok (.aload_n 0, 1) := by decide +kernel
theorem dX4_init_5 : decode cX4_init 5 = .ok (.new 9, 3) := by decide +kernel
theorem dX4_init_8 : decode cX4_init 8 = .ok (.dup, 1) := by decide +kernel
theorem dX4_init_9 : decode cX4_init 9 = .ok (.invokespecial 11, 3) := by decide +kernel
theorem dX4_init_12 : decode cX4_init 12 = .ok (.putfield 12, 3) := by decide +kernel
theorem dX4_init_15 : decode cX4_init 15 = .ok (.aload_n 0, 1) := by decide +kernel
theorem dX4_init_16 : decode cX4_init 16 = .ok (.bipush 7, 2) := by decide +kernel
theorem dX4_init_18 : decode cX4_init 18 = .ok (.anewarray 18, 3) := by decide +kernel
theorem dX4_init_21 : decode cX4_init 21 = .ok (.putfield 20, 3) := by decide +kernel
theorem dX4_init_24 : decode cX4_init 24 = .ok (.aload_n 0, 1) := by decide +kernel
theorem dX4_init_25 : decode cX4_init 25 = .ok (.bipush 7, 2) := by decide +kernel
theorem dX4_init_27 : decode cX4_init 27 = .ok (.newarray .int, 2) := by decide +kernel
theorem dX4_init_29 : decode cX4_init 29 = .ok (.putfield 24, 3) := by decide +kernel
theorem dX4_init_32 : decode cX4_init 32 = .ok (.aload_n 0, 1) := by decide +kernel
theorem dX4_init_33 : decode cX4_init 33 = .ok (.new 18, 3) := by decide +kernel
theorem dX4_init_36 : decode cX4_init 36 = .ok (.dup, 1) := by decide +kernel
theorem dX4_init_37 : decode cX4_init 37 = .ok (.invokespecial 28, 3) := by decide +kernel
theorem dX4_init_40 : decode cX4_init 40 = .ok (.putfield 29, 3) := by decide +kernel
theorem dX4_init_43 : decode cX4_init 43 = .ok (.aload_n 0, 1) := by decide +kernel
theorem dX4_init_44 : decode cX4_init 44 = .ok (.new 18, 3) := by decide +kernel
theorem dX4_init_47 : decode cX4_init 47 = .ok (.dup, 1) := by decide +kernel
theorem dX4_init_48 : decode cX4_init 48 = .ok (.invokespecial 28, 3) := by decide +kernel
theorem dX4_init_51 : decode cX4_init 51 = .ok (.putfield 33, 3) := by decide +kernel
theorem dX4_init_54 : decode cX4_init 54 = .ok (.aload_n 0, 1) := by decide +kernel
theorem dX4_init_55 : decode cX4_init 55 = .ok (.new 18, 3) := by decide +kernel
theorem dX4_init_58 : decode cX4_init 58 = .ok (.dup, 1) := by decide +kernel
theorem dX4_init_59 : decode cX4_init 59 = .ok (.invokespecial 28, 3) := by decide +kernel
theorem dX4_init_62 : decode cX4_init 62 = .ok (.putfield 36, 3) := by decide +kernel
theorem dX4_init_65 : decode cX4_init 65 = .ok (.aload_n 0, 1) := by decide +kernel
theorem dX4_init_66 : decode cX4_init 66 = .ok (.new 18, 3) := by decide +kernel
theorem dX4_init_69 : decode cX4_init 69 = .ok (.dup, 1) := by decide +kernel
theorem dX4_init_70 : decode cX4_init 70 = .ok (.invokespecial 28, 3) := by decide +kernel
theorem dX4_init_73 : decode cX4_init 73 = .ok (.putfield 39, 3) := by decide +kernel
theorem dX4_init_76 : decode cX4_init 76 = .ok (.iconst 0, 1) := by decide +kernel
theorem dX4_init_77 : decode cX4_init 77 = .ok (.istore_n 1, 1) := by decide +kernel
theorem dX4_init_78 : decode cX4_init 78 = .ok (.iload_n 1, 1) := by decide +kernel
theorem dX4_init_79 : decode cX4_init 79 = .ok (.bipush 6, 2) := by decide +kernel
theorem dX4_init_81 : decode cX4_init 81 = .ok (.if_icmp .gt 22, 3) := by decide +kernel
theorem dX4_init_84 : decode cX4_init 84 = .ok (.aload_n 0, 1) := by decide +kernel
theorem dX4_init_85 : decode cX4_init 85 = .ok (.getfield 20, 3) := by decide +kernel
theorem dX4_init_88 : decode cX4_init 88 = .ok (.iload_n 1, 1) := by decide +kernel
theorem dX4_init_89 : decode cX4_init 89 = .ok (.new 18, 3) := by decide +kernel
theorem dX4_init_92 : decode cX4_init 92 = .ok (.dup, 1) := by decide +kernel
theorem dX4_init_93 : decode cX4_init 93 = .ok (.invokespecial 28, 3) := by decide +kernel
theorem dX4_init_96 : decode cX4_init 96 = .ok (.aastore, 1) := by decide +kernel
theorem dX4_init_97 : decode cX4_init 97 = .ok (.iinc 1 1, 3) := by decide +kernel
theorem dX4_init_100 : decode cX4_init 100 = .ok (.goto (-22), 3) := by decide +kernel
theorem dX4_init_103 : decode cX4_init 103 = .ok (.return_, 1) := by decide +kernel
def f_X4_init (σ : ml_St) (Q : ml_St → Prop) : Prop :=
(∀ j : Int, σ 9 j = 0) ∧
f_X3_init σ (fun σ2 =>
∀ σ3, σ3 = ml_up σ2 8 0 9 →
(∀ j : Int, σ3 11 j = 0) ∧
∀ σ5, σ5 = ml_up σ3 8 1 11 →
(∀ j : Int, σ5 12 j = 0) ∧
∀ σ7, σ7 = ml_up σ5 8 2 12 →
(∀ j : Int, σ7 13 j = 0) ∧
f_X9_init σ7 13 (fun σ9 =>
∀ σ10, σ10 = ml_up σ9 8 3 13 →
(∀ j : Int, σ10 16 j = 0) ∧
f_X9_init σ10 16 (fun σ12 =>
∀ σ13, σ13 = ml_up σ12 8 4 16 →
(∀ j : Int, σ13 19 j = 0) ∧
f_X9_init σ13 19 (fun σ15 =>
∀ σ16, σ16 = ml_up σ15 8 5 19 →
(∀ j : Int, σ16 22 j = 0) ∧
f_X9_init σ16 22 (fun σ18 =>
∀ σ19, σ19 = ml_up σ18 8 6 22 →
σ19 8 1 = 11 ∧
(∀ j : Int, σ19 25 j = 0) ∧
f_X9_init σ19 25 (fun σ23 =>
∀ σ24, σ24 = ml_up σ23 11 0 25 →
σ24 8 1 = 11 ∧
(∀ j : Int, σ24 28 j = 0) ∧
f_X9_init σ24 28 (fun σ28 =>
∀ σ29, σ29 = ml_up σ28 11 1 28 →
σ29 8 1 = 11 ∧
(∀ j : Int, σ29 31 j = 0) ∧
f_X9_init σ29 31 (fun σ33 =>
∀ σ34, σ34 = ml_up σ33 11 2 31 →
σ34 8 1 = 11 ∧
(∀ j : Int, σ34 34 j = 0) ∧
f_X9_init σ34 34 (fun σ38 =>
∀ σ39, σ39 = ml_up σ38 11 3 34 →
σ39 8 1 = 11 ∧
(∀ j : Int, σ39 37 j = 0) ∧
f_X9_init σ39 37 (fun σ43 =>
∀ σ44, σ44 = ml_up σ43 11 4 37 →
σ44 8 1 = 11 ∧
(∀ j : Int, σ44 40 j = 0) ∧
f_X9_init σ44 40 (fun σ48 =>
∀ σ49, σ49 = ml_up σ48 11 5 40 →
σ49 8 1 = 11 ∧
(∀ j : Int, σ49 43 j = 0) ∧
f_X9_init σ49 43 (fun σ53 =>
∀ σ54, σ54 = ml_up σ53 11 6 43 →
Q σ54))))))))))))
def rm_X4_init : Room := { frames := 2, cells := 37, slots := 328, locals := 80 }
set_option maxRecDepth 100000 in
set_option maxHeartbeats 4000000 in
theorem c_X4_init (l : Launch) (base : Nat) (D : va_G) (cA : Nat → ClassId) (σ : ml_St) (Q : ml_St → Prop) (hw : f_X4_init σ Q) : Met l yX4_init (Cond.code yX4_init cX4_init 2 none :: ml_T) rm_X4_init (va_Pc [.ref (base + (8 : Int).toNat)] (ml_UC base D cA 8 σ)) (ml_QC base D cA (8 + 37) Q) 37 328 (ml_A base) := by
  refine Met.ofW (cc := cX4_init) (maxL := 2) (ret := none) (by decide) rfl ?_
  intro p e s m args below meth c s₁ B hml hv
  obtain ⟨rfl, ⟨hP, hK, hok⟩, hs, hNN⟩ := hv
  have hini : meth.name = "<init>" := (name_of_methodNamed B.named B.method).1
  have X : ml_X p s m c meth _ D cA cX4_init 2 RX4 none := ⟨B.exec, B.bytes, hml, findClass_of_methodNamed B.named, fun w hw => atoms_spec (ws := Cond.code yX4_init cX4_init 2 none :: ml_T) B.pre w (List.mem_cons_of_mem _ hw), hK, B.notSynchronized, B.returns⟩
  have hl := lv_entry [.ref (base + (8 : Int).toNat)] (n := 2) (Nat.le_of_ble_eq_true rfl)
  rw [lg_entry_eq]
  generalize (lg_sl [.ref (base + (8 : Int).toNat)] ++ List.replicate (2 - (lg_sl [.ref (base + (8 : Int).toNat)]).length) Slot.unset).toArray = ls at hl ⊢
  have hl : lv_has ls 2 [(0, .ref (base + (8 : Int).toNat))] := hl
  unfold f_X4_init at hw
  suffices hV : ml_V p l e rm_X4_init s m [.ref (base + (8 : Int).toNat)].toArray below meth c (MQ below (ml_QC base D cA (8 + 37) Q) [.ref (base + (8 : Int).toNat)].toArray s 37 328 (ml_A base)) base D cA 0 0 0 (8 + 0) σ (F0 m 0 ls []) from hV s.heap [] hP va_S.rf hok ml_RO0
  refine ml_aload_n (pc := 0) X hl 0 rfl rfl dX4_init_0 ?_
  refine ml_objInit (pc := 1) X ⟨tw_1_91, tw_1_24, tw_1_25⟩ hl ⟨by decide, by decide⟩ (Nat.le_of_ble_eq_true rfl) dX4_init_1 ?_
  refine ml_aload_n (pc := 4) X hl 0 rfl rfl dX4_init_4 ?_
  obtain ⟨z1, hw⟩ := hw
  refine ml_newO (n0 := 8) (kc := 0) (ks := 0) (pc := 5) (k := 9) X hs ⟨tw_1_92, tw_1_93, tw_1_6⟩ in_X3 rfl (by decide) tk_X3 df_X3 (Or.inr (by omega)) (by omega) (by decide +kernel) z1 ⟨by decide, by decide⟩ dX4_init_5 ?_
  refine ml_dup (pc := 8) X dX4_init_8 rfl ?_
  refine ml_callC (n0 := 8) (kc := 1) (ks := 6) (pc := 9) (k := 9) (mc := 1) (ms := 0) X hs hNN (c_X3_init l base D cA σ _ hw) ⟨⟨(List.mem_of_getElem? (i := 3) rfl), tw_1_95, tw_1_6, tw_1_96⟩, rfl, by decide +kernel⟩ ⟨rfl, rfl⟩ ⟨by decide, by decide⟩ (by omega) hl (Nat.le_of_ble_eq_true rfl) ⟨by decide, by decide⟩ dX4_init_9 (fun σ2 hw => ?_)
  refine ml_putF (pc := 12) (x := 9) (k := 8) X hini in_X4 rfl (by decide) tk_X4 nmX4 0 (by decide) rfl rfl tw_1_166 (ml_k8 (by decide)) dX4_init_12 (ml_fvO (by omega)) (show (0 : Int) ≤ 9 by omega) rfl rfl (Or.inl (by omega)) (fun σ3 g3 => ?_)
  have hw := hw σ3 g3
  refine ml_aload_n (pc := 15) X hl 0 rfl rfl dX4_init_15 ?_
  refine ml_bipush (pc := 16) X dX4_init_16 (by decide) ?_
  obtain ⟨z4, hw⟩ := hw
  refine ml_newR (n0 := 8) (kc := 2) (ks := 6) (pc := 18) (k := 11) X hs 5 7 tw_1_120 hNN.2.1 rfl (by omega) (by omega) (by decide +kernel) (fun f hf => by show _ = _; unfold ml_cell; simp only [hf]; rfl) z4 (by decide) ⟨by decide, by decide⟩ dX4_init_18 ?_
  refine ml_putF (pc := 21) (x := 11) (k := 8) X hini in_X4 rfl (by decide) tk_X4 nmX4 1 (by decide) rfl rfl tw_1_167 (ml_k8 (by decide)) dX4_init_21 (ml_fvA (by omega)) (show (0 : Int) ≤ 11 by omega) rfl rfl (Or.inl (by omega)) (fun σ5 g5 => ?_)
  have hw := hw σ5 g5
  refine ml_aload_n (pc := 24) X hl 0 rfl rfl dX4_init_24 ?_
  refine ml_bipush (pc := 25) X dX4_init_25 (by decide) ?_
  obtain ⟨z6, hw⟩ := hw
  refine ml_newA (n0 := 8) (kc := 3) (ks := 13) (pc := 27) (k := 12) X hs .int .int 1 7 tw_1_42 rfl rfl (fun _ _ h => h) (7, .inl (fun _ => 0)) (fun _ => rfl) (by omega) (by omega) (by decide +kernel) (fun f hf => by show _ = _; unfold ml_cell; simp only [hf]; rfl) z6 (by decide) (by decide) ⟨by decide, by decide⟩ dX4_init_27 ?_
  refine ml_putF (pc := 29) (x := 12) (k := 8) X hini in_X4 rfl (by decide) tk_X4 nmX4 2 (by decide) rfl rfl tw_1_168 (ml_k8 (by decide)) dX4_init_29 (ml_fvA (by omega)) (show (0 : Int) ≤ 12 by omega) rfl rfl (Or.inl (by omega)) (fun σ7 g7 => ?_)
  have hw := hw σ7 g7
  refine ml_aload_n (pc := 32) X hl 0 rfl rfl dX4_init_32 ?_
  obtain ⟨z8, hw⟩ := hw
  refine ml_newO (n0 := 8) (kc := 4) (ks := 20) (pc := 33) (k := 13) X hs ⟨tw_1_120, tw_1_122, tw_1_7⟩ in_X9 rfl (by decide) tk_X9 df_X9 (Or.inr (by omega)) (by omega) (by decide +kernel) z8 ⟨by decide, by decide⟩ dX4_init_33 ?_
  refine ml_dup (pc := 36) X dX4_init_36 rfl ?_
  refine ml_callC (n0 := 8) (kc := 5) (ks := 28) (pc := 37) (k := 13) (mc := 2) (ms := 20) X hs hNN (c_X9_init l base D cA (8 + 5) 13 (by omega) (by decide +kernel) σ7 _ hw) ⟨⟨(List.mem_of_getElem? (i := 4) rfl), tw_1_124, tw_1_7, tw_1_125⟩, rfl, by decide +kernel⟩ ⟨rfl, rfl⟩ ⟨by decide, by decide⟩ (by omega) hl (Nat.le_of_ble_eq_true rfl) ⟨by decide, by decide⟩ dX4_init_37 (fun σ9 hw => ?_)
  refine ml_putF (pc := 40) (x := 13) (k := 8) X hini in_X4 rfl (by decide) tk_X4 nmX4 3 (by decide) rfl rfl tw_1_169 (ml_k8 (by decide)) dX4_init_40 (ml_fvO (by omega)) (show (0 : Int) ≤ 13 by omega) rfl rfl (Or.inl (by omega)) (fun σ10 g10 => ?_)
  have hw := hw σ10 g10
  refine ml_aload_n (pc := 43) X hl 0 rfl rfl dX4_init_43 ?_
  obtain ⟨z11, hw⟩ := hw
  refine ml_newO (n0 := 8) (kc := 7) (ks := 48) (pc := 44) (k := 16) X hs ⟨tw_1_120, tw_1_122, tw_1_7⟩ in_X9 rfl (by decide) tk_X9 df_X9 (Or.inr (by omega)) (by omega) (by decide +kernel) z11 ⟨by decide, by decide⟩ dX4_init_44 ?_
  refine ml_dup (pc := 47) X dX4_init_47 rfl ?_
  refine ml_callC (n0 := 8) (kc := 8) (ks := 56) (pc := 48) (k := 16) (mc := 2) (ms := 20) X hs hNN (c_X9_init l base D cA (8 + 8) 16 (by omega) (by decide +kernel) σ10 _ hw) ⟨⟨(List.mem_of_getElem? (i := 4) rfl), tw_1_124, tw_1_7, tw_1_125⟩, rfl, by decide +kernel⟩ ⟨rfl, rfl⟩ ⟨by decide, by decide⟩ (by omega) hl (Nat.le_of_ble_eq_true rfl) ⟨by decide, by decide⟩ dX4_init_48 (fun σ12 hw => ?_)
  refine ml_putF (pc := 51) (x := 16) (k := 8) X hini in_X4 rfl (by decide) tk_X4 nmX4 4 (by decide) rfl rfl tw_1_170 (ml_k8 (by decide)) dX4_init_51 (ml_fvO (by omega)) (show (0 : Int) ≤ 16 by omega) rfl rfl (Or.inl (by omega)) (fun σ13 g13 => ?_)
  have hw := hw σ13 g13
  refine ml_aload_n (pc := 54) X hl 0 rfl rfl dX4_init_54 ?_
  obtain ⟨z14, hw⟩ := hw
  refine ml_newO (n0 := 8) (kc := 10) (ks := 76) (pc := 55) (k := 19) X hs ⟨tw_1_120, tw_1_122, tw_1_7⟩ in_X9 rfl (by decide) tk_X9 df_X9 (Or.inr (by omega)) (by omega) (by decide +kernel) z14 ⟨by decide, by decide⟩ dX4_init_55 ?_
  refine ml_dup (pc := 58) X dX4_init_58 rfl ?_
  refine ml_callC (n0 := 8) (kc := 11) (ks := 84) (pc := 59) (k := 19) (mc := 2) (ms := 20) X hs hNN (c_X9_init l base D cA (8 + 11) 19 (by omega) (by decide +kernel) σ13 _ hw) ⟨⟨(List.mem_of_getElem? (i := 4) rfl), tw_1_124, tw_1_7, tw_1_125⟩, rfl, by decide +kernel⟩ ⟨rfl, rfl⟩ ⟨by decide, by decide⟩ (by omega) hl (Nat.le_of_ble_eq_true rfl) ⟨by decide, by decide⟩ dX4_init_59 (fun σ15 hw => ?_)
  refine ml_putF (pc := 62) (x := 19) (k := 8) X hini in_X4 rfl (by decide) tk_X4 nmX4 5 (by decide) rfl rfl tw_1_171 (ml_k8 (by decide)) dX4_init_62 (ml_fvO (by omega)) (show (0 : Int) ≤ 19 by omega) rfl rfl (Or.inl (by omega)) (fun σ16 g16 => ?_)
  have hw := hw σ16 g16
  refine ml_aload_n (pc := 65) X hl 0 rfl rfl dX4_init_65 ?_
  obtain ⟨z17, hw⟩ := hw
  refine ml_newO (n0 := 8) (kc := 13) (ks := 104) (pc := 66) (k := 22) X hs ⟨tw_1_120, tw_1_122, tw_1_7⟩ in_X9 rfl (by decide) tk_X9 df_X9 (Or.inr (by omega)) (by omega) (by decide +kernel) z17 ⟨by decide, by decide⟩ dX4_init_66 ?_
  refine ml_dup (pc := 69) X dX4_init_69 rfl ?_
  refine ml_callC (n0 := 8) (kc := 14) (ks := 112) (pc := 70) (k := 22) (mc := 2) (ms := 20) X hs hNN (c_X9_init l base D cA (8 + 14) 22 (by omega) (by decide +kernel) σ16 _ hw) ⟨⟨(List.mem_of_getElem? (i := 4) rfl), tw_1_124, tw_1_7, tw_1_125⟩, rfl, by decide +kernel⟩ ⟨rfl, rfl⟩ ⟨by decide, by decide⟩ (by omega) hl (Nat.le_of_ble_eq_true rfl) ⟨by decide, by decide⟩ dX4_init_70 (fun σ18 hw => ?_)
  refine ml_putF (pc := 73) (x := 22) (k := 8) X hini in_X4 rfl (by decide) tk_X4 nmX4 6 (by decide) rfl rfl tw_1_172 (ml_k8 (by decide)) dX4_init_73 (ml_fvO (by omega)) (show (0 : Int) ≤ 22 by omega) rfl rfl (Or.inl (by omega)) (fun σ19 g19 => ?_)
  have hw := hw σ19 g19
  refine ml_iconst (pc := 76) X dX4_init_76 ?_
  refine ml_istore_n (pc := 77) X rfl hl (by decide) (lst' := [(1, .int (Int32.ofInt 0)), (0, .ref (base + (8 : Int).toNat))]) rfl dX4_init_77 (fun ls hl => ?_)
  refine ml_iload_n (pc := 78) X hl 0 rfl rfl dX4_init_78 ?_
  refine ml_bipush (pc := 79) X dX4_init_79 (by decide) ?_
  refine ml_icmp_gt (pc := 81) (tgt := 103) X ⟨by decide, by decide⟩ ⟨by decide, by decide⟩ dX4_init_81 (by decide) (fun c20 => absurd c20 (by decide)) (fun c20 => ?_)
  refine ml_aload_n (pc := 84) X hl 1 rfl rfl dX4_init_84 ?_
  obtain ⟨e21, hw⟩ := hw
  refine ml_getg (pc := 85) (k := 8) X in_X4 rfl (by decide) 1 (by decide) tw_1_167 (ml_k8 (by decide)) dX4_init_85 (v := .ref (base + (11 : Int).toNat)) (fun _ => by show (if σ19 8 1 = 0 then Value.null else .ref (base + (σ19 8 1).toNat)) = _; rw [e21]; exact if_neg (by omega)) (fun _ => ?_)
  refine ml_iload_n (pc := 88) X hl 0 rfl rfl dX4_init_88 ?_
  obtain ⟨z22, hw⟩ := hw
  refine ml_newO (n0 := 8) (kc := 16) (ks := 132) (pc := 89) (k := 25) X hs ⟨tw_1_120, tw_1_122, tw_1_7⟩ in_X9 rfl (by decide) tk_X9 df_X9 (Or.inr (by omega)) (by omega) (by decide +kernel) z22 ⟨by decide, by decide⟩ dX4_init_89 ?_
  refine ml_dup (pc := 92) X dX4_init_92 rfl ?_
  refine ml_callC (n0 := 8) (kc := 17) (ks := 140) (pc := 93) (k := 25) (mc := 2) (ms := 20) X hs hNN (c_X9_init l base D cA (8 + 17) 25 (by omega) (by decide +kernel) σ19 _ hw) ⟨⟨(List.mem_of_getElem? (i := 4) rfl), tw_1_124, tw_1_7, tw_1_125⟩, rfl, by decide +kernel⟩ ⟨rfl, rfl⟩ ⟨by decide, by decide⟩ (by omega) hl (Nat.le_of_ble_eq_true rfl) ⟨by decide, by decide⟩ dX4_init_93 (fun σ23 hw => ?_)
  refine ml_aast (pc := 96) (k := 11) (i := 0) (v := 25) X (ml_k11 (by decide)) (fun _ => rfl) rfl (ml_k25 (by decide)) (by decide) rfl (Or.inl (by decide +kernel)) (by decide) (by decide) dX4_init_96 (fun σ24 g24 => ?_)
  have hw := hw σ24 g24
  refine ml_iinc (pc := 97) X (x := 0) (y := 1) (by decide) hl 0 rfl (by decide) (lst' := [(1, .int (Int32.ofInt 1)), (0, .ref (base + (8 : Int).toNat))]) rfl dX4_init_97 (fun ls hl => ?_)
  refine ml_goto (pc := 100) (tgt := 78) X dX4_init_100 (by decide) ?_
  refine ml_iload_n (pc := 78) X hl 0 rfl rfl dX4_init_78 ?_
  refine ml_bipush (pc := 79) X dX4_init_79 (by decide) ?_
  refine ml_icmp_gt (pc := 81) (tgt := 103) X ⟨by decide, by decide⟩ ⟨by decide, by decide⟩ dX4_init_81 (by decide) (fun c25 => absurd c25 (by decide)) (fun c25 => ?_)
  refine ml_aload_n (pc := 84) X hl 1 rfl rfl dX4_init_84 ?_
  obtain ⟨e26, hw⟩ := hw
  refine ml_getg (pc := 85) (k := 8) X in_X4 rfl (by decide) 1 (by decide) tw_1_167 (ml_k8 (by decide)) dX4_init_85 (v := .ref (base + (11 : Int).toNat)) (fun _ => by show (if σ24 8 1 = 0 then Value.null else .ref (base + (σ24 8 1).toNat)) = _; rw [e26]; exact if_neg (by omega)) (fun _ => ?_)
  refine ml_iload_n (pc := 88) X hl 0 rfl rfl dX4_init_88 ?_
  obtain ⟨z27, hw⟩ := hw
  refine ml_newO (n0 := 8) (kc := 19) (ks := 160) (pc := 89) (k := 28) X hs ⟨tw_1_120, tw_1_122, tw_1_7⟩ in_X9 rfl (by decide) tk_X9 df_X9 (Or.inr (by omega)) (by omega) (by decide +kernel) z27 ⟨by decide, by decide⟩ dX4_init_89 ?_
  refine ml_dup (pc := 92) X dX4_init_92 rfl ?_
  refine ml_callC (n0 := 8) (kc := 20) (ks := 168) (pc := 93) (k := 28) (mc := 2) (ms := 20) X hs hNN (c_X9_init l base D cA (8 + 20) 28 (by omega) (by decide +kernel) σ24 _ hw) ⟨⟨(List.mem_of_getElem? (i := 4) rfl), tw_1_124, tw_1_7, tw_1_125⟩, rfl, by decide +kernel⟩ ⟨rfl, rfl⟩ ⟨by decide, by decide⟩ (by omega) hl (Nat.le_of_ble_eq_true rfl) ⟨by decide, by decide⟩ dX4_init_93 (fun σ28 hw => ?_)
  refine ml_aast (pc := 96) (k := 11) (i := 1) (v := 28) X (ml_k11 (by decide)) (fun _ => rfl) rfl (ml_k28 (by decide)) (by decide) rfl (Or.inl (by decide +kernel)) (by decide) (by decide) dX4_init_96 (fun σ29 g29 => ?_)
  have hw := hw σ29 g29
  refine ml_iinc (pc := 97) X (x := 1) (y := 2) (by decide) hl 0 rfl (by decide) (lst' := [(1, .int (Int32.ofInt 2)), (0, .ref (base + (8 : Int).toNat))]) rfl dX4_init_97 (fun ls hl => ?_)
  refine ml_goto (pc := 100) (tgt := 78) X dX4_init_100 (by decide) ?_
  refine ml_iload_n (pc := 78) X hl 0 rfl rfl dX4_init_78 ?_
  refine ml_bipush (pc := 79) X dX4_init_79 (by decide) ?_
  refine ml_icmp_gt (pc := 81) (tgt := 103) X ⟨by decide, by decide⟩ ⟨by decide, by decide⟩ dX4_init_81 (by decide) (fun c30 => absurd c30 (by decide)) (fun c30 => ?_)
  refine ml_aload_n (pc := 84) X hl 1 rfl rfl dX4_init_84 ?_
  obtain ⟨e31, hw⟩ := hw
  refine ml_getg (pc := 85) (k := 8) X in_X4 rfl (by decide) 1 (by decide) tw_1_167 (ml_k8 (by decide)) dX4_init_85 (v := .ref (base + (11 : Int).toNat)) (fun _ => by show (if σ29 8 1 = 0 then Value.null else .ref (base + (σ29 8 1).toNat)) = _; rw [e31]; exact if_neg (by omega)) (fun _ => ?_)
  refine ml_iload_n (pc := 88) X hl 0 rfl rfl dX4_init_88 ?_
  obtain ⟨z32, hw⟩ := hw
  refine ml_newO (n0 := 8) (kc := 22) (ks := 188) (pc := 89) (k := 31) X hs ⟨tw_1_120, tw_1_122, tw_1_7⟩ in_X9 rfl (by decide) tk_X9 df_X9 (Or.inr (by omega)) (by omega) (by decide +kernel) z32 ⟨by decide, by decide⟩ dX4_init_89 ?_
  refine ml_dup (pc := 92) X dX4_init_92 rfl ?_
  refine ml_callC (n0 := 8) (kc := 23) (ks := 196) (pc := 93) (k := 31) (mc := 2) (ms := 20) X hs hNN (c_X9_init l base D cA (8 + 23) 31 (by omega) (by decide +kernel) σ29 _ hw) ⟨⟨(List.mem_of_getElem? (i := 4) rfl), tw_1_124, tw_1_7, tw_1_125⟩, rfl, by decide +kernel⟩ ⟨rfl, rfl⟩ ⟨by decide, by decide⟩ (by omega) hl (Nat.le_of_ble_eq_true rfl) ⟨by decide, by decide⟩ dX4_init_93 (fun σ33 hw => ?_)
  refine ml_aast (pc := 96) (k := 11) (i := 2) (v := 31) X (ml_k11 (by decide)) (fun _ => rfl) rfl (ml_k31 (by decide)) (by decide) rfl (Or.inl (by decide +kernel)) (by decide) (by decide) dX4_init_96 (fun σ34 g34 => ?_)
  have hw := hw σ34 g34
  refine ml_iinc (pc := 97) X (x := 2) (y := 3) (by decide) hl 0 rfl (by decide) (lst' := [(1, .int (Int32.ofInt 3)), (0, .ref (base + (8 : Int).toNat))]) rfl dX4_init_97 (fun ls hl => ?_)
  refine ml_goto (pc := 100) (tgt := 78) X dX4_init_100 (by decide) ?_
  refine ml_iload_n (pc := 78) X hl 0 rfl rfl dX4_init_78 ?_
  refine ml_bipush (pc := 79) X dX4_init_79 (by decide) ?_
  refine ml_icmp_gt (pc := 81) (tgt := 103) X ⟨by decide, by decide⟩ ⟨by decide, by decide⟩ dX4_init_81 (by decide) (fun c35 => absurd c35 (by decide)) (fun c35 => ?_)
  refine ml_aload_n (pc := 84) X hl 1 rfl rfl dX4_init_84 ?_
  obtain ⟨e36, hw⟩ := hw
  refine ml_getg (pc := 85) (k := 8) X in_X4 rfl (by decide) 1 (by decide) tw_1_167 (ml_k8 (by decide)) dX4_init_85 (v := .ref (base + (11 : Int).toNat)) (fun _ => by show (if σ34 8 1 = 0 then Value.null else .ref (base + (σ34 8 1).toNat)) = _; rw [e36]; exact if_neg (by omega)) (fun _ => ?_)
  refine ml_iload_n (pc := 88) X hl 0 rfl rfl dX4_init_88 ?_
  obtain ⟨z37, hw⟩ := hw
  refine ml_newO (n0 := 8) (kc := 25) (ks := 216) (pc := 89) (k := 34) X hs ⟨tw_1_120, tw_1_122, tw_1_7⟩ in_X9 rfl (by decide) tk_X9 df_X9 (Or.inr (by omega)) (by omega) (by decide +kernel) z37 ⟨by decide, by decide⟩ dX4_init_89 ?_
  refine ml_dup (pc := 92) X dX4_init_92 rfl ?_
  refine ml_callC (n0 := 8) (kc := 26) (ks := 224) (pc := 93) (k := 34) (mc := 2) (ms := 20) X hs hNN (c_X9_init l base D cA (8 + 26) 34 (by omega) (by decide +kernel) σ34 _ hw) ⟨⟨(List.mem_of_getElem? (i := 4) rfl), tw_1_124, tw_1_7, tw_1_125⟩, rfl, by decide +kernel⟩ ⟨rfl, rfl⟩ ⟨by decide, by decide⟩ (by omega) hl (Nat.le_of_ble_eq_true rfl) ⟨by decide, by decide⟩ dX4_init_93 (fun σ38 hw => ?_)
  refine ml_aast (pc := 96) (k := 11) (i := 3) (v := 34) X (ml_k11 (by decide)) (fun _ => rfl) rfl (ml_k34 (by decide)) (by decide) rfl (Or.inl (by decide +kernel)) (by decide) (by decide) dX4_init_96 (fun σ39 g39 => ?_)
  have hw := hw σ39 g39
  refine ml_iinc (pc := 97) X (x := 3) (y := 4) (by decide) hl 0 rfl (by decide) (lst' := [(1, .int (Int32.ofInt 4)), (0, .ref (base + (8 : Int).toNat))]) rfl dX4_init_97 (fun ls hl => ?_)
  refine ml_goto (pc := 100) (tgt := 78) X dX4_init_100 (by decide) ?_
  refine ml_iload_n (pc := 78) X hl 0 rfl rfl dX4_init_78 ?_
  refine ml_bipush (pc := 79) X dX4_init_79 (by decide) ?_
  refine ml_icmp_gt (pc := 81) (tgt := 103) X ⟨by decide, by decide⟩ ⟨by decide, by decide⟩ dX4_init_81 (by decide) (fun c40 => absurd c40 (by decide)) (fun c40 => ?_)
  refine ml_aload_n (pc := 84) X hl 1 rfl rfl dX4_init_84 ?_
  obtain ⟨e41, hw⟩ := hw
  refine ml_getg (pc := 85) (k := 8) X in_X4 rfl (by decide) 1 (by decide) tw_1_167 (ml_k8 (by decide)) dX4_init_85 (v := .ref (base + (11 : Int).toNat)) (fun _ => by show (if σ39 8 1 = 0 then Value.null else .ref (base + (σ39 8 1).toNat)) = _; rw [e41]; exact if_neg (by omega)) (fun _ => ?_)
  refine ml_iload_n (pc := 88) X hl 0 rfl rfl dX4_init_88 ?_
  obtain ⟨z42, hw⟩ := hw
  refine ml_newO (n0 := 8) (kc := 28) (ks := 244) (pc := 89) (k := 37) X hs ⟨tw_1_120, tw_1_122, tw_1_7⟩ in_X9 rfl (by decide) tk_X9 df_X9 (Or.inr (by omega)) (by omega) (by decide +kernel) z42 ⟨by decide, by decide⟩ dX4_init_89 ?_
  refine ml_dup (pc := 92) X dX4_init_92 rfl ?_
  refine ml_callC (n0 := 8) (kc := 29) (ks := 252) (pc := 93) (k := 37) (mc := 2) (ms := 20) X hs hNN (c_X9_init l base D cA (8 + 29) 37 (by omega) (by decide +kernel) σ39 _ hw) ⟨⟨(List.mem_of_getElem? (i := 4) rfl), tw_1_124, tw_1_7, tw_1_125⟩, rfl, by decide +kernel⟩ ⟨rfl, rfl⟩ ⟨by decide, by decide⟩ (by omega) hl (Nat.le_of_ble_eq_true rfl) ⟨by decide, by decide⟩ dX4_init_93 (fun σ43 hw => ?_)
  refine ml_aast (pc := 96) (k := 11) (i := 4) (v := 37) X (ml_k11 (by decide)) (fun _ => rfl) rfl (ml_k37 (by decide)) (by decide) rfl (Or.inl (by decide +kernel)) (by decide) (by decide) dX4_init_96 (fun σ44 g44 => ?_)
  have hw := hw σ44 g44
  refine ml_iinc (pc := 97) X (x := 4) (y := 5) (by decide) hl 0 rfl (by decide) (lst' := [(1, .int (Int32.ofInt 5)), (0, .ref (base + (8 : Int).toNat))]) rfl dX4_init_97 (fun ls hl => ?_)
  refine ml_goto (pc := 100) (tgt := 78) X dX4_init_100 (by decide) ?_
  refine ml_iload_n (pc := 78) X hl 0 rfl rfl dX4_init_78 ?_
  refine ml_bipush (pc := 79) X dX4_init_79 (by decide) ?_
  refine ml_icmp_gt (pc := 81) (tgt := 103) X ⟨by decide, by decide⟩ ⟨by decide, by decide⟩ dX4_init_81 (by decide) (fun c45 => absurd c45 (by decide)) (fun c45 => ?_)
  refine ml_aload_n (pc := 84) X hl 1 rfl rfl dX4_init_84 ?_
  obtain ⟨e46, hw⟩ := hw
  refine ml_getg (pc := 85) (k := 8) X in_X4 rfl (by decide) 1 (by decide) tw_1_167 (ml_k8 (by decide)) dX4_init_85 (v := .ref (base + (11 : Int).toNat)) (fun _ => by show (if σ44 8 1 = 0 then Value.null else .ref (base + (σ44 8 1).toNat)) = _; rw [e46]; exact if_neg (by omega)) (fun _ => ?_)
  refine ml_iload_n (pc := 88) X hl 0 rfl rfl dX4_init_88 ?_
  obtain ⟨z47, hw⟩ := hw
  refine ml_newO (n0 := 8) (kc := 31) (ks := 272) (pc := 89) (k := 40) X hs ⟨tw_1_120, tw_1_122, tw_1_7⟩ in_X9 rfl (by decide) tk_X9 df_X9 (Or.inr (by omega)) (by omega) (by decide +kernel) z47 ⟨by decide, by decide⟩ dX4_init_89 ?_
  refine ml_dup (pc := 92) X dX4_init_92 rfl ?_
  refine ml_callC (n0 := 8) (kc := 32) (ks := 280) (pc := 93) (k := 40) (mc := 2) (ms := 20) X hs hNN (c_X9_init l base D cA (8 + 32) 40 (by omega) (by decide +kernel) σ44 _ hw) ⟨⟨(List.mem_of_getElem? (i := 4) rfl), tw_1_124, tw_1_7, tw_1_125⟩, rfl, by decide +kernel⟩ ⟨rfl, rfl⟩ ⟨by decide, by decide⟩ (by omega) hl (Nat.le_of_ble_eq_true rfl) ⟨by decide, by decide⟩ dX4_init_93 (fun σ48 hw => ?_)
  refine ml_aast (pc := 96) (k := 11) (i := 5) (v := 40) X (ml_k11 (by decide)) (fun _ => rfl) rfl (ml_k40 (by decide)) (by decide) rfl (Or.inl (by decide +kernel)) (by decide) (by decide) dX4_init_96 (fun σ49 g49 => ?_)
  have hw := hw σ49 g49
  refine ml_iinc (pc := 97) X (x := 5) (y := 6) (by decide) hl 0 rfl (by decide) (lst' := [(1, .int (Int32.ofInt 6)), (0, .ref (base + (8 : Int).toNat))]) rfl dX4_init_97 (fun ls hl => ?_)
  refine ml_goto (pc := 100) (tgt := 78) X dX4_init_100 (by decide) ?_
  refine ml_iload_n (pc := 78) X hl 0 rfl rfl dX4_init_78 ?_
  refine ml_bipush (pc := 79) X dX4_init_79 (by decide) ?_
  refine ml_icmp_gt (pc := 81) (tgt := 103) X ⟨by decide, by decide⟩ ⟨by decide, by decide⟩ dX4_init_81 (by decide) (fun c50 => absurd c50 (by decide)) (fun c50 => ?_)
  refine ml_aload_n (pc := 84) X hl 1 rfl rfl dX4_init_84 ?_
  obtain ⟨e51, hw⟩ := hw
  refine ml_getg (pc := 85) (k := 8) X in_X4 rfl (by decide) 1 (by decide) tw_1_167 (ml_k8 (by decide)) dX4_init_85 (v := .ref (base + (11 : Int).toNat)) (fun _ => by show (if σ49 8 1 = 0 then Value.null else .ref (base + (σ49 8 1).toNat)) = _; rw [e51]; exact if_neg (by omega)) (fun _ => ?_)
  refine ml_iload_n (pc := 88) X hl 0 rfl rfl dX4_init_88 ?_
  obtain ⟨z52, hw⟩ := hw
  refine ml_newO (n0 := 8) (kc := 34) (ks := 300) (pc := 89) (k := 43) X hs ⟨tw_1_120, tw_1_122, tw_1_7⟩ in_X9 rfl (by decide) tk_X9 df_X9 (Or.inr (by omega)) (by omega) (by decide +kernel) z52 ⟨by decide, by decide⟩ dX4_init_89 ?_
  refine ml_dup (pc := 92) X dX4_init_92 rfl ?_
  refine ml_callC (n0 := 8) (kc := 35) (ks := 308) (pc := 93) (k := 43) (mc := 2) (ms := 20) X hs hNN (c_X9_init l base D cA (8 + 35) 43 (by omega) (by decide +kernel) σ49 _ hw) ⟨⟨(List.mem_of_getElem? (i := 4) rfl), tw_1_124, tw_1_7, tw_1_125⟩, rfl, by decide +kernel⟩ ⟨rfl, rfl⟩ ⟨by decide, by decide⟩ (by omega) hl (Nat.le_of_ble_eq_true rfl) ⟨by decide, by decide⟩ dX4_init_93 (fun σ53 hw => ?_)
  refine ml_aast (pc := 96) (k := 11) (i := 6) (v := 43) X (ml_k11 (by decide)) (fun _ => rfl) rfl (ml_k43 (by decide)) (by decide) rfl (Or.inl (by decide +kernel)) (by decide) (by decide) dX4_init_96 (fun σ54 g54 => ?_)
  have hw := hw σ54 g54
  refine ml_iinc (pc := 97) X (x := 6) (y := 7) (by decide) hl 0 rfl (by decide) (lst' := [(1, .int (Int32.ofInt 7)), (0, .ref (base + (8 : Int).toNat))]) rfl dX4_init_97 (fun ls hl => ?_)
  refine ml_goto (pc := 100) (tgt := 78) X dX4_init_100 (by decide) ?_
  refine ml_iload_n (pc := 78) X hl 0 rfl rfl dX4_init_78 ?_
  refine ml_bipush (pc := 79) X dX4_init_79 (by decide) ?_
  refine ml_icmp_gt (pc := 81) (tgt := 103) X ⟨by decide, by decide⟩ ⟨by decide, by decide⟩ dX4_init_81 (by decide) (fun c55 => ?_) (fun c55 => absurd c55 (by decide))
  exact ml_vretC (pc := 103) X hw dX4_init_103
theorem dX6_init_0 : decode cX6_init 0 = .ok (.aload_n 0, 1) := by decide +kernel
theorem dX6_init_1 : decode cX6_init 1 = .ok (.invokespecial 3, 3) := by decide +kernel
theorem dX6_init_4 : decode cX6_init 4 = .ok (.aload_n 0, 1) := by decide +kernel
theorem dX6_init_5 : decode cX6_init 5 = .ok (.bipush 65, 2) := by decide +kernel
theorem dX6_init_7 : decode cX6_init 7 = .ok (.newarray .int, 2) := by decide +kernel
theorem dX6_init_9 : decode cX6_init 9 = .ok (.putfield 11, 3) := by decide +kernel
theorem dX6_init_12 : decode cX6_init 12 = .ok (.aload_n 0, 1) := by decide +kernel
theorem dX6_init_13 : decode cX6_init 13 = .ok (.bipush 65, 2) := by decide +kernel
theorem dX6_init_15 : decode cX6_init 15 = .ok (.newarray .long, 2) := by decide +kernel
theorem dX6_init_17 : decode cX6_init 17 = .ok (.putfield 15, 3) := by decide +kernel
theorem dX6_init_20 : decode cX6_init 20 = .ok (.aload_n 0, 1) := by decide +kernel
theorem dX6_init_21 : decode cX6_init 21 = .ok (.new 19, 3) := by decide +kernel
theorem dX6_init_24 : decode cX6_init 24 = .ok (.dup, 1) := by decide +kernel
theorem dX6_init_25 : decode cX6_init 25 = .ok (.invokespecial 21, 3) := by decide +kernel
theorem dX6_init_28 : decode cX6_init 28 = .ok (.putfield 22, 3) := by decide +kernel
theorem dX6_init_31 : decode cX6_init 31 = .ok (.aload_n 0, 1) := by decide +kernel
theorem dX6_init_32 : decode cX6_init 32 = .ok (.new 19, 3) := by decide +kernel
theorem dX6_init_35 : decode cX6_init 35 = .ok (.dup, 1) := by decide +kernel
theorem dX6_init_36 : decode cX6_init 36 = .ok (.invokespecial 21, 3) := by decide +kernel
theorem dX6_init_39 : decode cX6_init 39 = .ok (.putfield 26, 3) := by decide +kernel
theorem dX6_init_42 : decode cX6_init 42 = .ok (.aload_n 0, 1) := by decide +kernel
theorem dX6_init_43 : decode cX6_init 43 = .ok (.iconst 1, 1) := by decide +kernel
theorem dX6_init_44 : decode cX6_init 44 = .ok (.putfield 29, 3) := by decide +kernel
theorem dX6_init_47 : decode cX6_init 47 = .ok (.aload_n 0, 1) := by decide +kernel
theorem dX6_init_48 : decode cX6_init 48 = .ok (.iconst 1, 1) := by decide +kernel
theorem dX6_init_49 : decode cX6_init 49 = .ok (.putfield 33, 3) := by decide +kernel
theorem dX6_init_52 : decode cX6_init 52 = .ok (.aload_n 0, 1) := by decide +kernel
theorem dX6_init_53 : decode cX6_init 53 = .ok (.lconst 0, 1) := by decide +kernel
theorem dX6_init_54 : decode cX6_init 54 = .ok (.putfield 36, 3) := by decide +kernel
theorem dX6_init_57 : decode cX6_init 57 = .ok (.aload_n 0, 1) := by decide +kernel
theorem dX6_init_58 : decode cX6_init 58 = .ok (.iconst 1, 1) := by decide +kernel
theorem dX6_init_59 : decode cX6_init 59 = .ok (.putfield 40, 3) := by decide +kernel
theorem dX6_init_62 : decode cX6_init 62 = .ok (.aload_n 0, 1) := by decide +kernel
theorem dX6_init_63 : decode cX6_init 63 = .ok (.lconst 0, 1) := by decide +kernel
theorem dX6_init_64 : decode cX6_init 64 = .ok (.putfield 43, 3) := by decide +kernel
theorem dX6_init_67 : decode cX6_init 67 = .ok (.aload_n 0, 1) := by decide +kernel
theorem dX6_init_68 : decode cX6_init 68 = .ok (.iconst 1, 1) := by decide +kernel
theorem dX6_init_69 : decode cX6_init 69 = .ok (.putfield 46, 3) := by decide +kernel
theorem dX6_init_72 : decode cX6_init 72 = .ok (.return_, 1) := by decide +kernel
def f_X6_init (σ : ml_St) (Q : ml_St → Prop) : Prop :=
(∀ j : Int, σ 47 j = 0) ∧
∀ σ2, σ2 = ml_up σ 46 0 47 →
(∀ j : Int, σ2 48 j = 0) ∧
∀ σ4, σ4 = ml_up σ2 46 1 48 →
(∀ j : Int, σ4 49 j = 0) ∧
f_X9_init σ4 49 (fun σ6 =>
∀ σ7, σ7 = ml_up σ6 46 2 49 →
(∀ j : Int, σ7 52 j = 0) ∧
f_X9_init σ7 52 (fun σ9 =>
∀ σ10, σ10 = ml_up σ9 46 3 52 →
∀ σ11, σ11 = ml_up σ10 46 4 1 →
∀ σ12, σ12 = ml_up σ11 46 5 1 →
∀ σ13, σ13 = ml_up σ12 46 6 0 →
∀ σ14, σ14 = ml_up σ13 46 7 1 →
∀ σ15, σ15 = ml_up σ14 46 8 0 →
∀ σ16, σ16 = ml_up σ15 46 9 1 →
Q σ16))
def rm_X6_init : Room := { frames := 2, cells := 8, slots := 186, locals := 80 }
set_option maxRecDepth 100000 in
set_option maxHeartbeats 4000000 in
theorem c_X6_init (l : Launch) (base : Nat) (D : va_G) (cA : Nat → ClassId) (σ : ml_St) (Q : ml_St → Prop) (hw : f_X6_init σ Q) : Met l yX6_init (Cond.code yX6_init cX6_init 1 none :: ml_T) rm_X6_init (va_Pc [.ref (base + (46 : Int).toNat)] (ml_UC base D cA 46 σ)) (ml_QC base D cA (46 + 8) Q) 8 186 (ml_A base) := by
  refine Met.ofW (cc := cX6_init) (maxL := 1) (ret := none) (by decide) rfl ?_
  intro p e s m args below meth c s₁ B hml hv
  obtain ⟨rfl, ⟨hP, hK, hok⟩, hs, hNN⟩ := hv
  have hini : meth.name = "<init>" := (name_of_methodNamed B.named B.method).1
  have X : ml_X p s m c meth _ D cA cX6_init 1 RX6 none := ⟨B.exec, B.bytes, hml, findClass_of_methodNamed B.named, fun w hw => atoms_spec (ws := Cond.code yX6_init cX6_init 1 none :: ml_T) B.pre w (List.mem_cons_of_mem _ hw), hK, B.notSynchronized, B.returns⟩
  have hl := lv_entry [.ref (base + (46 : Int).toNat)] (n := 1) (Nat.le_of_ble_eq_true rfl)
  rw [lg_entry_eq]
  generalize (lg_sl [.ref (base + (46 : Int).toNat)] ++ List.replicate (1 - (lg_sl [.ref (base + (46 : Int).toNat)]).length) Slot.unset).toArray = ls at hl ⊢
  have hl : lv_has ls 1 [(0, .ref (base + (46 : Int).toNat))] := hl
  unfold f_X6_init at hw
  suffices hV : ml_V p l e rm_X6_init s m [.ref (base + (46 : Int).toNat)].toArray below meth c (MQ below (ml_QC base D cA (46 + 8) Q) [.ref (base + (46 : Int).toNat)].toArray s 8 186 (ml_A base)) base D cA 0 0 0 (46 + 0) σ (F0 m 0 ls []) from hV s.heap [] hP va_S.rf hok ml_RO0
  refine ml_aload_n (pc := 0) X hl 0 rfl rfl dX6_init_0 ?_
  refine ml_objInit (pc := 1) X ⟨tw_1_193, tw_1_24, tw_1_25⟩ hl ⟨by decide, by decide⟩ (Nat.le_of_ble_eq_true rfl) dX6_init_1 ?_
  refine ml_aload_n (pc := 4) X hl 0 rfl rfl dX6_init_4 ?_
  refine ml_bipush (pc := 5) X dX6_init_5 (by decide) ?_
  obtain ⟨z1, hw⟩ := hw
  refine ml_newA (n0 := 46) (kc := 0) (ks := 0) (pc := 7) (k := 47) X hs .int .int 1 65 tw_1_42 rfl rfl (fun _ _ h => h) (65, .inl (fun _ => 0)) (fun _ => rfl) (by omega) (by omega) (by decide +kernel) (fun f hf => by show _ = _; unfold ml_cell; simp only [hf]; rfl) z1 (by decide) (by decide) ⟨by decide, by decide⟩ dX6_init_7 ?_
  refine ml_putF (pc := 9) (x := 47) (k := 46) X hini in_X6 rfl (by decide) tk_X6 nmX6 0 (by decide) rfl rfl tw_1_196 (ml_k46 (by decide)) dX6_init_9 (ml_fvA (by omega)) (show (0 : Int) ≤ 47 by omega) rfl rfl (Or.inl (by omega)) (fun σ2 g2 => ?_)
  have hw := hw σ2 g2
  refine ml_aload_n (pc := 12) X hl 0 rfl rfl dX6_init_12 ?_
  refine ml_bipush (pc := 13) X dX6_init_13 (by decide) ?_
  obtain ⟨z3, hw⟩ := hw
  refine ml_newA (n0 := 46) (kc := 1) (ks := 65) (pc := 15) (k := 48) X hs .long .long 4 65 tw_1_165 rfl rfl (fun _ _ h => h) (65, .inr (.inl (fun _ => 0))) (fun _ => rfl) (by omega) (by omega) (by decide +kernel) (fun f hf => by show _ = _; unfold ml_cell; simp only [hf]; rfl) z3 (by decide) (by decide) ⟨by decide, by decide⟩ dX6_init_15 ?_
  refine ml_putF (pc := 17) (x := 48) (k := 46) X hini in_X6 rfl (by decide) tk_X6 nmX6 1 (by decide) rfl rfl tw_1_197 (ml_k46 (by decide)) dX6_init_17 (ml_fvA (by omega)) (show (0 : Int) ≤ 48 by omega) rfl rfl (Or.inl (by omega)) (fun σ4 g4 => ?_)
  have hw := hw σ4 g4
  refine ml_aload_n (pc := 20) X hl 0 rfl rfl dX6_init_20 ?_
  obtain ⟨z5, hw⟩ := hw
  refine ml_newO (n0 := 46) (kc := 2) (ks := 130) (pc := 21) (k := 49) X hs ⟨tw_1_194, tw_1_122, tw_1_7⟩ in_X9 rfl (by decide) tk_X9 df_X9 (Or.inr (by omega)) (by omega) (by decide +kernel) z5 ⟨by decide, by decide⟩ dX6_init_21 ?_
  refine ml_dup (pc := 24) X dX6_init_24 rfl ?_
  refine ml_callC (n0 := 46) (kc := 3) (ks := 138) (pc := 25) (k := 49) (mc := 2) (ms := 20) X hs hNN (c_X9_init l base D cA (46 + 3) 49 (by omega) (by decide +kernel) σ4 _ hw) ⟨⟨(List.mem_of_getElem? (i := 6) rfl), tw_1_124, tw_1_7, tw_1_125⟩, rfl, by decide +kernel⟩ ⟨rfl, rfl⟩ ⟨by decide, by decide⟩ (by omega) hl (Nat.le_of_ble_eq_true rfl) ⟨by decide, by decide⟩ dX6_init_25 (fun σ6 hw => ?_)
  refine ml_putF (pc := 28) (x := 49) (k := 46) X hini in_X6 rfl (by decide) tk_X6 nmX6 2 (by decide) rfl rfl tw_1_198 (ml_k46 (by decide)) dX6_init_28 (ml_fvO (by omega)) (show (0 : Int) ≤ 49 by omega) rfl rfl (Or.inl (by omega)) (fun σ7 g7 => ?_)
  have hw := hw σ7 g7
  refine ml_aload_n (pc := 31) X hl 0 rfl rfl dX6_init_31 ?_
  obtain ⟨z8, hw⟩ := hw
  refine ml_newO (n0 := 46) (kc := 5) (ks := 158) (pc := 32) (k := 52) X hs ⟨tw_1_194, tw_1_122, tw_1_7⟩ in_X9 rfl (by decide) tk_X9 df_X9 (Or.inr (by omega)) (by omega) (by decide +kernel) z8 ⟨by decide, by decide⟩ dX6_init_32 ?_
  refine ml_dup (pc := 35) X dX6_init_35 rfl ?_
  refine ml_callC (n0 := 46) (kc := 6) (ks := 166) (pc := 36) (k := 52) (mc := 2) (ms := 20) X hs hNN (c_X9_init l base D cA (46 + 6) 52 (by omega) (by decide +kernel) σ7 _ hw) ⟨⟨(List.mem_of_getElem? (i := 6) rfl), tw_1_124, tw_1_7, tw_1_125⟩, rfl, by decide +kernel⟩ ⟨rfl, rfl⟩ ⟨by decide, by decide⟩ (by omega) hl (Nat.le_of_ble_eq_true rfl) ⟨by decide, by decide⟩ dX6_init_36 (fun σ9 hw => ?_)
  refine ml_putF (pc := 39) (x := 52) (k := 46) X hini in_X6 rfl (by decide) tk_X6 nmX6 3 (by decide) rfl rfl tw_1_199 (ml_k46 (by decide)) dX6_init_39 (ml_fvO (by omega)) (show (0 : Int) ≤ 52 by omega) rfl rfl (Or.inl (by omega)) (fun σ10 g10 => ?_)
  have hw := hw σ10 g10
  refine ml_aload_n (pc := 42) X hl 0 rfl rfl dX6_init_42 ?_
  refine ml_iconst (pc := 43) X dX6_init_43 ?_
  refine ml_putg (pc := 44) (x := 1) (k := 46) X in_X6 rfl (by decide) tk_X6 nmX6 4 (by decide) rfl tw_1_200 (ml_k46 (by decide)) dX6_init_44 rfl ⟨by decide, by decide⟩ rfl rfl (Or.inl (by omega)) (fun σ11 g11 => ?_)
  have hw := hw σ11 g11
  refine ml_aload_n (pc := 47) X hl 0 rfl rfl dX6_init_47 ?_
  refine ml_iconst (pc := 48) X dX6_init_48 ?_
  refine ml_putg (pc := 49) (x := 1) (k := 46) X in_X6 rfl (by decide) tk_X6 nmX6 5 (by decide) rfl tw_1_202 (ml_k46 (by decide)) dX6_init_49 rfl ⟨by decide, by decide⟩ rfl rfl (Or.inl (by omega)) (fun σ12 g12 => ?_)
  have hw := hw σ12 g12
  refine ml_aload_n (pc := 52) X hl 0 rfl rfl dX6_init_52 ?_
  refine ml_lconst0 (pc := 53) X dX6_init_53 ?_
  refine ml_putg (pc := 54) (x := 0) (k := 46) X in_X6 rfl (by decide) tk_X6 nmX6 6 (by decide) rfl tw_1_204 (ml_k46 (by decide)) dX6_init_54 rfl ⟨by decide, by decide⟩ rfl rfl (Or.inl (by omega)) (fun σ13 g13 => ?_)
  have hw := hw σ13 g13
  refine ml_aload_n (pc := 57) X hl 0 rfl rfl dX6_init_57 ?_
  refine ml_iconst (pc := 58) X dX6_init_58 ?_
  refine ml_putg (pc := 59) (x := 1) (k := 46) X in_X6 rfl (by decide) tk_X6 nmX6 7 (by decide) rfl tw_1_205 (ml_k46 (by decide)) dX6_init_59 rfl ⟨by decide, by decide⟩ rfl rfl (Or.inl (by omega)) (fun σ14 g14 => ?_)
  have hw := hw σ14 g14
  refine ml_aload_n (pc := 62) X hl 0 rfl rfl dX6_init_62 ?_
  refine ml_lconst0 (pc := 63) X dX6_init_63 ?_
  refine ml_putg (pc := 64) (x := 0) (k := 46) X in_X6 rfl (by decide) tk_X6 nmX6 8 (by decide) rfl tw_1_207 (ml_k46 (by decide)) dX6_init_64 rfl ⟨by decide, by decide⟩ rfl rfl (Or.inl (by omega)) (fun σ15 g15 => ?_)
  have hw := hw σ15 g15
  refine ml_aload_n (pc := 67) X hl 0 rfl rfl dX6_init_67 ?_
  refine ml_iconst (pc := 68) X dX6_init_68 ?_
  refine ml_putg (pc := 69) (x := 1) (k := 46) X in_X6 rfl (by decide) tk_X6 nmX6 9 (by decide) rfl tw_1_209 (ml_k46 (by decide)) dX6_init_69 rfl ⟨by decide, by decide⟩ rfl rfl (Or.inl (by omega)) (fun σ16 g16 => ?_)
  have hw := hw σ16 g16
  exact ml_vretC (pc := 72) X hw dX6_init_72
theorem dX7_init_0 : decode cX7_init 0 = .ok (.aload_n 0, 1) := by decide +kernel
theorem dX7_init_1 : decode cX7_init 1 = .ok (.invokespecial 5, 3) := by decide +kernel
theorem dX7_init_4 : decode cX7_init 4 = .ok (.aload_n 0, 1) := by decide +kernel
theorem dX7_init_5 : decode cX7_init 5 = .ok (.iconst 0, 1) := by decide +kernel
theorem dX7_init_6 : decode cX7_init 6 = .ok (.putfield 11, 3) := by decide +kernel
theorem dX7_init_9 : decode cX7_init 9 = .ok (.aload_n 0, 1) := by decide +kernel
theorem dX7_init_10 : decode cX7_init 10 = .ok (.iconst 0, 1) := by decide +kernel
theorem dX7_init_11 : decode cX7_init 11 = .ok (.putfield 15, 3) := by decide +kernel
theorem dX7_init_14 : decode cX7_init 14 = .ok (.aload_n 0, 1) := by decide +kernel
theorem dX7_init_15 : decode cX7_init 15 = .ok (.iconst 0, 1) := by decide +kernel
theorem dX7_init_16 : decode cX7_init 16 = .ok (.putfield 18, 3) := by decide +kernel
theorem dX7_init_19 : decode cX7_init 19 = .ok (.aload_n 0, 1) := by decide +kernel
theorem dX7_init_20 : decode cX7_init 20 = .ok (.bipush 6, 2) := by decide +kernel
theorem dX7_init_22 : decode cX7_init 22 = .ok (.newarray .int, 2) := by decide +kernel
theorem dX7_init_24 : decode cX7_init 24 = .ok (.putfield 21, 3) := by decide +kernel
theorem dX7_init_27 : decode cX7_init 27 = .ok (.aload_n 0, 1) := by decide +kernel
theorem dX7_init_28 : decode cX7_init 28 = .ok (.sipush 945, 3) := by decide +kernel
theorem dX7_init_31 : decode cX7_init 31 = .ok (.newarray .int, 2) := by decide +kernel
theorem dX7_init_33 : decode cX7_init 33 = .ok (.putfield 25, 3) := by decide +kernel
theorem dX7_init_36 : decode cX7_init 36 = .ok (.aload_n 0, 1) := by decide +kernel
theorem dX7_init_37 : decode cX7_init 37 = .ok (.sipush 5676, 3) := by decide +kernel
theorem dX7_init_40 : decode cX7_init 40 = .ok (.newarray .int, 2) := by decide +kernel
theorem dX7_init_42 : decode cX7_init 42 = .ok (.putfield 28, 3) := by decide +kernel
theorem dX7_init_45 : decode cX7_init 45 = .ok (.aload_n 0, 1) := by decide +kernel
theorem dX7_init_46 : decode cX7_init 46 = .ok (.sipush 5676, 3) := by decide +kernel
theorem dX7_init_49 : decode cX7_init 49 = .ok (.newarray .int, 2) := by decide +kernel
theorem dX7_init_51 : decode cX7_init 51 = .ok (.putfield 31, 3) := by decide +kernel
theorem dX7_init_54 : decode cX7_init 54 = .ok (.aload_n 0, 1) := by decide +kernel
theorem dX7_init_55 : decode cX7_init 55 = .ok (.sipush 946, 3) := by decide +kernel
theorem dX7_init_58 : decode cX7_init 58 = .ok (.newarray .int, 2) := by decide +kernel
theorem dX7_init_60 : decode cX7_init 60 = .ok (.putfield 34, 3) := by decide +kernel
theorem dX7_init_63 : decode cX7_init 63 = .ok (.aload_n 0, 1) := by decide +kernel
theorem dX7_init_64 : decode cX7_init 64 = .ok (.sipush 9460, 3) := by decide +kernel
theorem dX7_init_67 : decode cX7_init 67 = .ok (.newarray .int, 2) := by decide +kernel
theorem dX7_init_69 : decode cX7_init 69 = .ok (.putfield 37, 3) := by decide +kernel
theorem dX7_init_72 : decode cX7_init 72 = .ok (.aload_n 0, 1) := by decide +kernel
theorem dX7_init_73 : decode cX7_init 73 = .ok (.sipush 2838, 3) := by decide +kernel
theorem dX7_init_76 : decode cX7_init 76 = .ok (.newarray .long, 2) := by decide +kernel
theorem dX7_init_78 : decode cX7_init 78 = .ok (.putfield 40, 3) := by decide +kernel
theorem dX7_init_81 : decode cX7_init 81 = .ok (.aload_n 0, 1) := by decide +kernel
theorem dX7_init_82 : decode cX7_init 82 = .ok (.sipush 2838, 3) := by decide +kernel
theorem dX7_init_85 : decode cX7_init 85 = .ok (.newarray .long, 2) := by decide +kernel
theorem dX7_init_87 : decode cX7_init 87 = .ok (.putfield 44, 3) := by decide +kernel
theorem dX7_init_90 : decode cX7_init 90 = .ok (.aload_n 0, 1) := by decide +kernel
theorem dX7_init_91 : decode cX7_init 91 = .ok (.iconst 0, 1) := by decide +kernel
theorem dX7_init_92 : decode cX7_init 92 = .ok (.putfield 47, 3) := by decide +kernel
theorem dX7_init_95 : decode cX7_init 95 = .ok (.aload_n 0, 1) := by decide +kernel
theorem dX7_init_96 : decode cX7_init 96 = .ok (.new 50, 3) := by decide +kernel
theorem dX7_init_99 : decode cX7_init 99 = .ok (.dup, 1) := by decide +kernel
theorem dX7_init_100 : decode cX7_init 100 = .ok (.invokespecial 52, 3) := by decide +kernel
theorem dX7_init_103 : decode cX7_init 103 = .ok (.putfield 53, 3) := by decide +kernel
theorem dX7_init_106 : decode cX7_init 106 = .ok (.aload_n 0, 1) := by decide +kernel
theorem dX7_init_107 : decode cX7_init 107 = .ok (.new 50, 3) := by decide +kernel
theorem dX7_init_110 : decode cX7_init 110 = .ok (.dup, 1) := by decide +kernel
theorem dX7_init_111 : decode cX7_init 111 = .ok (.invokespecial 52, 3) := by decide +kernel
theorem dX7_init_114 : decode cX7_init 114 = .ok (.putfield 57, 3) := by decide +kernel
theorem dX7_init_117 : decode cX7_init 117 = .ok (.return_, 1) := by decide +kernel
def f_X7_init (σ : ml_St) (Q : ml_St → Prop) : Prop :=
∀ σ1, σ1 = ml_up σ 55 0 0 →
∀ σ2, σ2 = ml_up σ1 55 1 0 →
∀ σ3, σ3 = ml_up σ2 55 2 0 →
(∀ j : Int, σ3 56 j = 0) ∧
∀ σ5, σ5 = ml_up σ3 55 3 56 →
(∀ j : Int, σ5 57 j = 0) ∧
∀ σ7, σ7 = ml_up σ5 55 4 57 →
(∀ j : Int, σ7 58 j = 0) ∧
∀ σ9, σ9 = ml_up σ7 55 5 58 →
(∀ j : Int, σ9 59 j = 0) ∧
∀ σ11, σ11 = ml_up σ9 55 6 59 →
(∀ j : Int, σ11 60 j = 0) ∧
∀ σ13, σ13 = ml_up σ11 55 7 60 →
(∀ j : Int, σ13 61 j = 0) ∧
∀ σ15, σ15 = ml_up σ13 55 8 61 →
(∀ j : Int, σ15 62 j = 0) ∧
∀ σ17, σ17 = ml_up σ15 55 9 62 →
(∀ j : Int, σ17 63 j = 0) ∧
∀ σ19, σ19 = ml_up σ17 55 10 63 →
∀ σ20, σ20 = ml_up σ19 55 11 0 →
(∀ j : Int, σ20 64 j = 0) ∧
f_X9_init σ20 64 (fun σ22 =>
∀ σ23, σ23 = ml_up σ22 55 12 64 →
(∀ j : Int, σ23 67 j = 0) ∧
f_X9_init σ23 67 (fun σ25 =>
∀ σ26, σ26 = ml_up σ25 55 13 67 →
Q σ26))
def rm_X7_init : Room := { frames := 2, cells := 14, slots := 28441, locals := 80 }
set_option maxRecDepth 100000 in
set_option maxHeartbeats 4000000 in
theorem c_X7_init (l : Launch) (base : Nat) (D : va_G) (cA : Nat → ClassId) (σ : ml_St) (Q : ml_St → Prop) (hw : f_X7_init σ Q) : Met l yX7_init (Cond.code yX7_init cX7_init 1 none :: ml_T) rm_X7_init (va_Pc [.ref (base + (55 : Int).toNat)] (ml_UC base D cA 55 σ)) (ml_QC base D cA (55 + 14) Q) 14 28441 (ml_A base) := by
  refine Met.ofW (cc := cX7_init) (maxL := 1) (ret := none) (by decide) rfl ?_
  intro p e s m args below meth c s₁ B hml hv
  obtain ⟨rfl, ⟨hP, hK, hok⟩, hs, hNN⟩ := hv
  have hini : meth.name = "<init>" := (name_of_methodNamed B.named B.method).1
  have X : ml_X p s m c meth _ D cA cX7_init 1 RX7 none := ⟨B.exec, B.bytes, hml, findClass_of_methodNamed B.named, fun w hw => atoms_spec (ws := Cond.code yX7_init cX7_init 1 none :: ml_T) B.pre w (List.mem_cons_of_mem _ hw), hK, B.notSynchronized, B.returns⟩
  have hl := lv_entry [.ref (base + (55 : Int).toNat)] (n := 1) (Nat.le_of_ble_eq_true rfl)
  rw [lg_entry_eq]
  generalize (lg_sl [.ref (base + (55 : Int).toNat)] ++ List.replicate (1 - (lg_sl [.ref (base + (55 : Int).toNat)]).length) Slot.unset).toArray = ls at hl ⊢
  have hl : lv_has ls 1 [(0, .ref (base + (55 : Int).toNat))] := hl
  unfold f_X7_init at hw
  suffices hV : ml_V p l e rm_X7_init s m [.ref (base + (55 : Int).toNat)].toArray below meth c (MQ below (ml_QC base D cA (55 + 14) Q) [.ref (base + (55 : Int).toNat)].toArray s 14 28441 (ml_A base)) base D cA 0 0 0 (55 + 0) σ (F0 m 0 ls []) from hV s.heap [] hP va_S.rf hok ml_RO0
  refine ml_aload_n (pc := 0) X hl 0 rfl rfl dX7_init_0 ?_
  refine ml_objInit (pc := 1) X ⟨tw_1_237, tw_1_24, tw_1_25⟩ hl ⟨by decide, by decide⟩ (Nat.le_of_ble_eq_true rfl) dX7_init_1 ?_
  refine ml_aload_n (pc := 4) X hl 0 rfl rfl dX7_init_4 ?_
  refine ml_iconst (pc := 5) X dX7_init_5 ?_
  refine ml_putg (pc := 6) (x := 0) (k := 55) X in_X7 rfl (by decide) tk_X7 nmX7 0 (by decide) rfl tw_2_0 (ml_k55 (by decide)) dX7_init_6 rfl ⟨by decide, by decide⟩ rfl rfl (Or.inl (by omega)) (fun σ1 g1 => ?_)
  have hw := hw σ1 g1
  refine ml_aload_n (pc := 9) X hl 0 rfl rfl dX7_init_9 ?_
  refine ml_iconst (pc := 10) X dX7_init_10 ?_
  refine ml_putg (pc := 11) (x := 0) (k := 55) X in_X7 rfl (by decide) tk_X7 nmX7 1 (by decide) rfl tw_2_1 (ml_k55 (by decide)) dX7_init_11 rfl ⟨by decide, by decide⟩ rfl rfl (Or.inl (by omega)) (fun σ2 g2 => ?_)
  have hw := hw σ2 g2
  refine ml_aload_n (pc := 14) X hl 0 rfl rfl dX7_init_14 ?_
  refine ml_iconst (pc := 15) X dX7_init_15 ?_
  refine ml_putg (pc := 16) (x := 0) (k := 55) X in_X7 rfl (by decide) tk_X7 nmX7 2 (by decide) rfl tw_2_3 (ml_k55 (by decide)) dX7_init_16 rfl ⟨by decide, by decide⟩ rfl rfl (Or.inl (by omega)) (fun σ3 g3 => ?_)
  have hw := hw σ3 g3
  refine ml_aload_n (pc := 19) X hl 0 rfl rfl dX7_init_19 ?_
  refine ml_bipush (pc := 20) X dX7_init_20 (by decide) ?_
  obtain ⟨z4, hw⟩ := hw
  refine ml_newA (n0 := 55) (kc := 0) (ks := 0) (pc := 22) (k := 56) X hs .int .int 1 6 tw_1_42 rfl rfl (fun _ _ h => h) (6, .inl (fun _ => 0)) (fun _ => rfl) (by omega) (by omega) (by decide +kernel) (fun f hf => by show _ = _; unfold ml_cell; simp only [hf]; rfl) z4 (by decide) (by decide) ⟨by decide, by decide⟩ dX7_init_22 ?_
  refine ml_putF (pc := 24) (x := 56) (k := 55) X hini in_X7 rfl (by decide) tk_X7 nmX7 3 (by decide) rfl rfl tw_2_6 (ml_k55 (by decide)) dX7_init_24 (ml_fvA (by omega)) (show (0 : Int) ≤ 56 by omega) rfl rfl (Or.inl (by omega)) (fun σ5 g5 => ?_)
  have hw := hw σ5 g5
  refine ml_aload_n (pc := 27) X hl 0 rfl rfl dX7_init_27 ?_
  refine ml_sipush (pc := 28) X dX7_init_28 (by decide) ?_
  obtain ⟨z6, hw⟩ := hw
  refine ml_newA (n0 := 55) (kc := 1) (ks := 6) (pc := 31) (k := 57) X hs .int .int 1 945 tw_1_42 rfl rfl (fun _ _ h => h) (945, .inl (fun _ => 0)) (fun _ => rfl) (by omega) (by omega) (by decide +kernel) (fun f hf => by show _ = _; unfold ml_cell; simp only [hf]; rfl) z6 (by decide) (by decide) ⟨by decide, by decide⟩ dX7_init_31 ?_
  refine ml_putF (pc := 33) (x := 57) (k := 55) X hini in_X7 rfl (by decide) tk_X7 nmX7 4 (by decide) rfl rfl tw_2_8 (ml_k55 (by decide)) dX7_init_33 (ml_fvA (by omega)) (show (0 : Int) ≤ 57 by omega) rfl rfl (Or.inl (by omega)) (fun σ7 g7 => ?_)
  have hw := hw σ7 g7
  refine ml_aload_n (pc := 36) X hl 0 rfl rfl dX7_init_36 ?_
  refine ml_sipush (pc := 37) X dX7_init_37 (by decide) ?_
  obtain ⟨z8, hw⟩ := hw
  refine ml_newA (n0 := 55) (kc := 2) (ks := 951) (pc := 40) (k := 58) X hs .int .int 1 5676 tw_1_42 rfl rfl (fun _ _ h => h) (5676, .inl (fun _ => 0)) (fun _ => rfl) (by omega) (by omega) (by decide +kernel) (fun f hf => by show _ = _; unfold ml_cell; simp only [hf]; rfl) z8 (by decide) (by decide) ⟨by decide, by decide⟩ dX7_init_40 ?_
  refine ml_putF (pc := 42) (x := 58) (k := 55) X hini in_X7 rfl (by decide) tk_X7 nmX7 5 (by decide) rfl rfl tw_2_10 (ml_k55 (by decide)) dX7_init_42 (ml_fvA (by omega)) (show (0 : Int) ≤ 58 by omega) rfl rfl (Or.inl (by omega)) (fun σ9 g9 => ?_)
  have hw := hw σ9 g9
  refine ml_aload_n (pc := 45) X hl 0 rfl rfl dX7_init_45 ?_
  refine ml_sipush (pc := 46) X dX7_init_46 (by decide) ?_
  obtain ⟨z10, hw⟩ := hw
  refine ml_newA (n0 := 55) (kc := 3) (ks := 6627) (pc := 49) (k := 59) X hs .int .int 1 5676 tw_1_42 rfl rfl (fun _ _ h => h) (5676, .inl (fun _ => 0)) (fun _ => rfl) (by omega) (by omega) (by decide +kernel) (fun f hf => by show _ = _; unfold ml_cell; simp only [hf]; rfl) z10 (by decide) (by decide) ⟨by decide, by decide⟩ dX7_init_49 ?_
  refine ml_putF (pc := 51) (x := 59) (k := 55) X hini in_X7 rfl (by decide) tk_X7 nmX7 6 (by decide) rfl rfl tw_2_12 (ml_k55 (by decide)) dX7_init_51 (ml_fvA (by omega)) (show (0 : Int) ≤ 59 by omega) rfl rfl (Or.inl (by omega)) (fun σ11 g11 => ?_)
  have hw := hw σ11 g11
  refine ml_aload_n (pc := 54) X hl 0 rfl rfl dX7_init_54 ?_
  refine ml_sipush (pc := 55) X dX7_init_55 (by decide) ?_
  obtain ⟨z12, hw⟩ := hw
  refine ml_newA (n0 := 55) (kc := 4) (ks := 12303) (pc := 58) (k := 60) X hs .int .int 1 946 tw_1_42 rfl rfl (fun _ _ h => h) (946, .inl (fun _ => 0)) (fun _ => rfl) (by omega) (by omega) (by decide +kernel) (fun f hf => by show _ = _; unfold ml_cell; simp only [hf]; rfl) z12 (by decide) (by decide) ⟨by decide, by decide⟩ dX7_init_58 ?_
  refine ml_putF (pc := 60) (x := 60) (k := 55) X hini in_X7 rfl (by decide) tk_X7 nmX7 7 (by decide) rfl rfl tw_2_14 (ml_k55 (by decide)) dX7_init_60 (ml_fvA (by omega)) (show (0 : Int) ≤ 60 by omega) rfl rfl (Or.inl (by omega)) (fun σ13 g13 => ?_)
  have hw := hw σ13 g13
  refine ml_aload_n (pc := 63) X hl 0 rfl rfl dX7_init_63 ?_
  refine ml_sipush (pc := 64) X dX7_init_64 (by decide) ?_
  obtain ⟨z14, hw⟩ := hw
  refine ml_newA (n0 := 55) (kc := 5) (ks := 13249) (pc := 67) (k := 61) X hs .int .int 1 9460 tw_1_42 rfl rfl (fun _ _ h => h) (9460, .inl (fun _ => 0)) (fun _ => rfl) (by omega) (by omega) (by decide +kernel) (fun f hf => by show _ = _; unfold ml_cell; simp only [hf]; rfl) z14 (by decide) (by decide) ⟨by decide, by decide⟩ dX7_init_67 ?_
  refine ml_putF (pc := 69) (x := 61) (k := 55) X hini in_X7 rfl (by decide) tk_X7 nmX7 8 (by decide) rfl rfl tw_2_16 (ml_k55 (by decide)) dX7_init_69 (ml_fvA (by omega)) (show (0 : Int) ≤ 61 by omega) rfl rfl (Or.inl (by omega)) (fun σ15 g15 => ?_)
  have hw := hw σ15 g15
  refine ml_aload_n (pc := 72) X hl 0 rfl rfl dX7_init_72 ?_
  refine ml_sipush (pc := 73) X dX7_init_73 (by decide) ?_
  obtain ⟨z16, hw⟩ := hw
  refine ml_newA (n0 := 55) (kc := 6) (ks := 22709) (pc := 76) (k := 62) X hs .long .long 4 2838 tw_1_165 rfl rfl (fun _ _ h => h) (2838, .inr (.inl (fun _ => 0))) (fun _ => rfl) (by omega) (by omega) (by decide +kernel) (fun f hf => by show _ = _; unfold ml_cell; simp only [hf]; rfl) z16 (by decide) (by decide) ⟨by decide, by decide⟩ dX7_init_76 ?_
  refine ml_putF (pc := 78) (x := 62) (k := 55) X hini in_X7 rfl (by decide) tk_X7 nmX7 9 (by decide) rfl rfl tw_2_17 (ml_k55 (by decide)) dX7_init_78 (ml_fvA (by omega)) (show (0 : Int) ≤ 62 by omega) rfl rfl (Or.inl (by omega)) (fun σ17 g17 => ?_)
  have hw := hw σ17 g17
  refine ml_aload_n (pc := 81) X hl 0 rfl rfl dX7_init_81 ?_
  refine ml_sipush (pc := 82) X dX7_init_82 (by decide) ?_
  obtain ⟨z18, hw⟩ := hw
  refine ml_newA (n0 := 55) (kc := 7) (ks := 25547) (pc := 85) (k := 63) X hs .long .long 4 2838 tw_1_165 rfl rfl (fun _ _ h => h) (2838, .inr (.inl (fun _ => 0))) (fun _ => rfl) (by omega) (by omega) (by decide +kernel) (fun f hf => by show _ = _; unfold ml_cell; simp only [hf]; rfl) z18 (by decide) (by decide) ⟨by decide, by decide⟩ dX7_init_85 ?_
  refine ml_putF (pc := 87) (x := 63) (k := 55) X hini in_X7 rfl (by decide) tk_X7 nmX7 10 (by decide) rfl rfl tw_2_18 (ml_k55 (by decide)) dX7_init_87 (ml_fvA (by omega)) (show (0 : Int) ≤ 63 by omega) rfl rfl (Or.inl (by omega)) (fun σ19 g19 => ?_)
  have hw := hw σ19 g19
  refine ml_aload_n (pc := 90) X hl 0 rfl rfl dX7_init_90 ?_
  refine ml_iconst (pc := 91) X dX7_init_91 ?_
  refine ml_putg (pc := 92) (x := 0) (k := 55) X in_X7 rfl (by decide) tk_X7 nmX7 11 (by decide) rfl tw_2_19 (ml_k55 (by decide)) dX7_init_92 rfl ⟨by decide, by decide⟩ rfl rfl (Or.inl (by omega)) (fun σ20 g20 => ?_)
  have hw := hw σ20 g20
  refine ml_aload_n (pc := 95) X hl 0 rfl rfl dX7_init_95 ?_
  obtain ⟨z21, hw⟩ := hw
  refine ml_newO (n0 := 55) (kc := 8) (ks := 28385) (pc := 96) (k := 64) X hs ⟨tw_1_238, tw_1_122, tw_1_7⟩ in_X9 rfl (by decide) tk_X9 df_X9 (Or.inr (by omega)) (by omega) (by decide +kernel) z21 ⟨by decide, by decide⟩ dX7_init_96 ?_
  refine ml_dup (pc := 99) X dX7_init_99 rfl ?_
  refine ml_callC (n0 := 55) (kc := 9) (ks := 28393) (pc := 100) (k := 64) (mc := 2) (ms := 20) X hs hNN (c_X9_init l base D cA (55 + 9) 64 (by omega) (by decide +kernel) σ20 _ hw) ⟨⟨(List.mem_of_getElem? (i := 8) rfl), tw_1_124, tw_1_7, tw_1_125⟩, rfl, by decide +kernel⟩ ⟨rfl, rfl⟩ ⟨by decide, by decide⟩ (by omega) hl (Nat.le_of_ble_eq_true rfl) ⟨by decide, by decide⟩ dX7_init_100 (fun σ22 hw => ?_)
  refine ml_putF (pc := 103) (x := 64) (k := 55) X hini in_X7 rfl (by decide) tk_X7 nmX7 12 (by decide) rfl rfl tw_2_20 (ml_k55 (by decide)) dX7_init_103 (ml_fvO (by omega)) (show (0 : Int) ≤ 64 by omega) rfl rfl (Or.inl (by omega)) (fun σ23 g23 => ?_)
  have hw := hw σ23 g23
  refine ml_aload_n (pc := 106) X hl 0 rfl rfl dX7_init_106 ?_
  obtain ⟨z24, hw⟩ := hw
  refine ml_newO (n0 := 55) (kc := 11) (ks := 28413) (pc := 107) (k := 67) X hs ⟨tw_1_238, tw_1_122, tw_1_7⟩ in_X9 rfl (by decide) tk_X9 df_X9 (Or.inr (by omega)) (by omega) (by decide +kernel) z24 ⟨by decide, by decide⟩ dX7_init_107 ?_
  refine ml_dup (pc := 110) X dX7_init_110 rfl ?_
  refine ml_callC (n0 := 55) (kc := 12) (ks := 28421) (pc := 111) (k := 67) (mc := 2) (ms := 20) X hs hNN (c_X9_init l base D cA (55 + 12) 67 (by omega) (by decide +kernel) σ23 _ hw) ⟨⟨(List.mem_of_getElem? (i := 8) rfl), tw_1_124, tw_1_7, tw_1_125⟩, rfl, by decide +kernel⟩ ⟨rfl, rfl⟩ ⟨by decide, by decide⟩ (by omega) hl (Nat.le_of_ble_eq_true rfl) ⟨by decide, by decide⟩ dX7_init_111 (fun σ25 hw => ?_)
  refine ml_putF (pc := 114) (x := 67) (k := 55) X hini in_X7 rfl (by decide) tk_X7 nmX7 13 (by decide) rfl rfl tw_2_21 (ml_k55 (by decide)) dX7_init_114 (ml_fvO (by omega)) (show (0 : Int) ≤ 67 by omega) rfl rfl (Or.inl (by omega)) (fun σ26 g26 => ?_)
  have hw := hw σ26 g26
  exact ml_vretC (pc := 117) X hw dX7_init_117
theorem dX1_init_0 : decode cX1_init 0 = .ok (.aload_n 0, 1) := by decide +kernel
theorem dX1_init_1 : decode cX1_init 1 = .ok (.invokespecial 5, 3) := by decide +kernel
theorem dX1_init_4 : decode cX1_init 4 = .ok (.aload_n 0, 1) := by decide +kernel
theorem dX1_init_5 : decode cX1_init 5 = .ok (.sipush 2838, 3) := by decide +kernel
theorem dX1_init_8 : decode cX1_init 8 = .ok (.newarray .int, 2) := by decide +kernel
theorem dX1_init_10 : decode cX1_init 10 = .ok (.putfield 13, 3) := by decide +kernel
theorem dX1_init_13 : decode cX1_init 13 = .ok (.aload_n 0, 1) := by decide +kernel
theorem dX1_init_14 : decode cX1_init 14 = .ok (.sipush 2838, 3) := by decide +kernel
theorem dX1_init_17 : decode cX1_init 17 = .ok (.newarray .int, 2) := by decide +kernel
theorem dX1_init_19 : decode cX1_init 19 = .ok (.putfield 17, 3) := by decide +kernel
theorem dX1_init_22 : decode cX1_init 22 = .ok (.aload_n 0, 1) := by decide +kernel
theorem dX1_init_23 : decode cX1_init 23 = .ok (.sipush 2838, 3) := by decide +kernel
theorem dX1_init_26 : decode cX1_init 26 = .ok (.newarray .int, 2) := by decide +kernel
theorem dX1_init_28 : decode cX1_init 28 = .ok (.putfield 20, 3) := by decide +kernel
theorem dX1_init_31 : decode cX1_init 31 = .ok (.aload_n 0, 1) := by decide +kernel
theorem dX1_init_32 : decode cX1_init 32 = .ok (.sipush 2838, 3) := by decide +kernel
theorem dX1_init_35 : decode cX1_init 35 = .ok (.newarray .int, 2) := by decide +kernel
theorem dX1_init_37 : decode cX1_init 37 = .ok (.putfield 23, 3) := by decide +kernel
theorem dX1_init_40 : decode cX1_init 40 = .ok (.aload_n 0, 1) := by decide +kernel
theorem dX1_init_41 : decode cX1_init 41 = .ok (.sipush 946, 3) := by decide +kernel
theorem dX1_init_44 : decode cX1_init 44 = .ok (.newarray .long, 2) := by decide +kernel
theorem dX1_init_46 : decode cX1_init 46 = .ok (.putfield 26, 3) := by decide +kernel
theorem dX1_init_49 : decode cX1_init 49 = .ok (.aload_n 0, 1) := by decide +kernel
theorem dX1_init_50 : decode cX1_init 50 = .ok (.iconst (-1), 1) := by decide +kernel
theorem dX1_init_51 : decode cX1_init 51 = .ok (.putfield 30, 3) := by decide +kernel
theorem dX1_init_54 : decode cX1_init 54 = .ok (.aload_n 0, 1) := by decide +kernel
theorem dX1_init_55 : decode cX1_init 55 = .ok (.iconst (-1), 1) := by decide +kernel
theorem dX1_init_56 : decode cX1_init 56 = .ok (.putfield 34, 3) := by decide +kernel
theorem dX1_init_59 : decode cX1_init 59 = .ok (.return_, 1) := by decide +kernel
def f_X1_init (σ : ml_St) (Q : ml_St → Prop) : Prop :=
(∀ j : Int, σ 71 j = 0) ∧
∀ σ2, σ2 = ml_up σ 70 0 71 →
(∀ j : Int, σ2 72 j = 0) ∧
∀ σ4, σ4 = ml_up σ2 70 1 72 →
(∀ j : Int, σ4 73 j = 0) ∧
∀ σ6, σ6 = ml_up σ4 70 2 73 →
(∀ j : Int, σ6 74 j = 0) ∧
∀ σ8, σ8 = ml_up σ6 70 3 74 →
(∀ j : Int, σ8 75 j = 0) ∧
∀ σ10, σ10 = ml_up σ8 70 4 75 →
∀ σ11, σ11 = ml_up σ10 70 5 (-1) →
∀ σ12, σ12 = ml_up σ11 70 6 (-1) →
Q σ12
def rm_X1_init : Room := { frames := 1, cells := 5, slots := 12298, locals := 60 }
set_option maxRecDepth 100000 in
set_option maxHeartbeats 4000000 in
theorem c_X1_init (l : Launch) (base : Nat) (D : va_G) (cA : Nat → ClassId) (σ : ml_St) (Q : ml_St → Prop) (hw : f_X1_init σ Q) : Met l yX1_init (Cond.code yX1_init cX1_init 1 none :: ml_T) rm_X1_init (va_Pc [.ref (base + (70 : Int).toNat)] (ml_UC base D cA 70 σ)) (ml_QC base D cA (70 + 5) Q) 5 12298 (ml_A base) := by
  refine Met.ofW (cc := cX1_init) (maxL := 1) (ret := none) (by decide) rfl ?_
  intro p e s m args below meth c s₁ B hml hv
  obtain ⟨rfl, ⟨hP, hK, hok⟩, hs, hNN⟩ := hv
  have hini : meth.name = "<init>" := (name_of_methodNamed B.named B.method).1
  have X : ml_X p s m c meth _ D cA cX1_init 1 RX1 none := ⟨B.exec, B.bytes, hml, findClass_of_methodNamed B.named, fun w hw => atoms_spec (ws := Cond.code yX1_init cX1_init 1 none :: ml_T) B.pre w (List.mem_cons_of_mem _ hw), hK, B.notSynchronized, B.returns⟩
  have hl := lv_entry [.ref (base + (70 : Int).toNat)] (n := 1) (Nat.le_of_ble_eq_true rfl)
  rw [lg_entry_eq]
  generalize (lg_sl [.ref (base + (70 : Int).toNat)] ++ List.replicate (1 - (lg_sl [.ref (base + (70 : Int).toNat)]).length) Slot.unset).toArray = ls at hl ⊢
  have hl : lv_has ls 1 [(0, .ref (base + (70 : Int).toNat))] := hl
  unfold f_X1_init at hw
  suffices hV : ml_V p l e rm_X1_init s m [.ref (base + (70 : Int).toNat)].toArray below meth c (MQ below (ml_QC base D cA (70 + 5) Q) [.ref (base + (70 : Int).toNat)].toArray s 5 12298 (ml_A base)) base D cA 0 0 0 (70 + 0) σ (F0 m 0 ls []) from hV s.heap [] hP va_S.rf hok ml_RO0
  refine ml_aload_n (pc := 0) X hl 0 rfl rfl dX1_init_0 ?_
  refine ml_objInit (pc := 1) X ⟨tw_2_56, tw_1_24, tw_1_25⟩ hl ⟨by decide, by decide⟩ (Nat.le_of_ble_eq_true rfl) dX1_init_1 ?_
  refine ml_aload_n (pc := 4) X hl 0 rfl rfl dX1_init_4 ?_
  refine ml_sipush (pc := 5) X dX1_init_5 (by decide) ?_
  obtain ⟨z1, hw⟩ := hw
  refine ml_newA (n0 := 70) (kc := 0) (ks := 0) (pc := 8) (k := 71) X hs .int .int 1 2838 tw_1_42 rfl rfl (fun _ _ h => h) (2838, .inl (fun _ => 0)) (fun _ => rfl) (by omega) (by omega) (by decide +kernel) (fun f hf => by show _ = _; unfold ml_cell; simp only [hf]; rfl) z1 (by decide) (by decide) ⟨by decide, by decide⟩ dX1_init_8 ?_
  refine ml_putF (pc := 10) (x := 71) (k := 70) X hini in_X1 rfl (by decide) tk_X1 nmX1 0 (by decide) rfl rfl tw_2_57 (ml_k70 (by decide)) dX1_init_10 (ml_fvA (by omega)) (show (0 : Int) ≤ 71 by omega) rfl rfl (Or.inl (by omega)) (fun σ2 g2 => ?_)
  have hw := hw σ2 g2
  refine ml_aload_n (pc := 13) X hl 0 rfl rfl dX1_init_13 ?_
  refine ml_sipush (pc := 14) X dX1_init_14 (by decide) ?_
  obtain ⟨z3, hw⟩ := hw
  refine ml_newA (n0 := 70) (kc := 1) (ks := 2838) (pc := 17) (k := 72) X hs .int .int 1 2838 tw_1_42 rfl rfl (fun _ _ h => h) (2838, .inl (fun _ => 0)) (fun _ => rfl) (by omega) (by omega) (by decide +kernel) (fun f hf => by show _ = _; unfold ml_cell; simp only [hf]; rfl) z3 (by decide) (by decide) ⟨by decide, by decide⟩ dX1_init_17 ?_
  refine ml_putF (pc := 19) (x := 72) (k := 70) X hini in_X1 rfl (by decide) tk_X1 nmX1 1 (by decide) rfl rfl tw_2_58 (ml_k70 (by decide)) dX1_init_19 (ml_fvA (by omega)) (show (0 : Int) ≤ 72 by omega) rfl rfl (Or.inl (by omega)) (fun σ4 g4 => ?_)
  have hw := hw σ4 g4
  refine ml_aload_n (pc := 22) X hl 0 rfl rfl dX1_init_22 ?_
  refine ml_sipush (pc := 23) X dX1_init_23 (by decide) ?_
  obtain ⟨z5, hw⟩ := hw
  refine ml_newA (n0 := 70) (kc := 2) (ks := 5676) (pc := 26) (k := 73) X hs .int .int 1 2838 tw_1_42 rfl rfl (fun _ _ h => h) (2838, .inl (fun _ => 0)) (fun _ => rfl) (by omega) (by omega) (by decide +kernel) (fun f hf => by show _ = _; unfold ml_cell; simp only [hf]; rfl) z5 (by decide) (by decide) ⟨by decide, by decide⟩ dX1_init_26 ?_
  refine ml_putF (pc := 28) (x := 73) (k := 70) X hini in_X1 rfl (by decide) tk_X1 nmX1 2 (by decide) rfl rfl tw_2_59 (ml_k70 (by decide)) dX1_init_28 (ml_fvA (by omega)) (show (0 : Int) ≤ 73 by omega) rfl rfl (Or.inl (by omega)) (fun σ6 g6 => ?_)
  have hw := hw σ6 g6
  refine ml_aload_n (pc := 31) X hl 0 rfl rfl dX1_init_31 ?_
  refine ml_sipush (pc := 32) X dX1_init_32 (by decide) ?_
  obtain ⟨z7, hw⟩ := hw
  refine ml_newA (n0 := 70) (kc := 3) (ks := 8514) (pc := 35) (k := 74) X hs .int .int 1 2838 tw_1_42 rfl rfl (fun _ _ h => h) (2838, .inl (fun _ => 0)) (fun _ => rfl) (by omega) (by omega) (by decide +kernel) (fun f hf => by show _ = _; unfold ml_cell; simp only [hf]; rfl) z7 (by decide) (by decide) ⟨by decide, by decide⟩ dX1_init_35 ?_
  refine ml_putF (pc := 37) (x := 74) (k := 70) X hini in_X1 rfl (by decide) tk_X1 nmX1 3 (by decide) rfl rfl tw_2_60 (ml_k70 (by decide)) dX1_init_37 (ml_fvA (by omega)) (show (0 : Int) ≤ 74 by omega) rfl rfl (Or.inl (by omega)) (fun σ8 g8 => ?_)
  have hw := hw σ8 g8
  refine ml_aload_n (pc := 40) X hl 0 rfl rfl dX1_init_40 ?_
  refine ml_sipush (pc := 41) X dX1_init_41 (by decide) ?_
  obtain ⟨z9, hw⟩ := hw
  refine ml_newA (n0 := 70) (kc := 4) (ks := 11352) (pc := 44) (k := 75) X hs .long .long 4 946 tw_1_165 rfl rfl (fun _ _ h => h) (946, .inr (.inl (fun _ => 0))) (fun _ => rfl) (by omega) (by omega) (by decide +kernel) (fun f hf => by show _ = _; unfold ml_cell; simp only [hf]; rfl) z9 (by decide) (by decide) ⟨by decide, by decide⟩ dX1_init_44 ?_
  refine ml_putF (pc := 46) (x := 75) (k := 70) X hini in_X1 rfl (by decide) tk_X1 nmX1 4 (by decide) rfl rfl tw_2_61 (ml_k70 (by decide)) dX1_init_46 (ml_fvA (by omega)) (show (0 : Int) ≤ 75 by omega) rfl rfl (Or.inl (by omega)) (fun σ10 g10 => ?_)
  have hw := hw σ10 g10
  refine ml_aload_n (pc := 49) X hl 0 rfl rfl dX1_init_49 ?_
  refine ml_iconst (pc := 50) X dX1_init_50 ?_
  refine ml_putg (pc := 51) (x := (-1)) (k := 70) X in_X1 rfl (by decide) tk_X1 nmX1 5 (by decide) rfl tw_2_62 (ml_k70 (by decide)) dX1_init_51 rfl ⟨by decide, by decide⟩ rfl rfl (Or.inl (by omega)) (fun σ11 g11 => ?_)
  have hw := hw σ11 g11
  refine ml_aload_n (pc := 54) X hl 0 rfl rfl dX1_init_54 ?_
  refine ml_iconst (pc := 55) X dX1_init_55 ?_
  refine ml_putg (pc := 56) (x := (-1)) (k := 70) X in_X1 rfl (by decide) tk_X1 nmX1 6 (by decide) rfl tw_2_63 (ml_k70 (by decide)) dX1_init_56 rfl ⟨by decide, by decide⟩ rfl rfl (Or.inl (by omega)) (fun σ12 g12 => ?_)
  have hw := hw σ12 g12
  exact ml_vretC (pc := 59) X hw dX1_init_59
theorem dX5_init_0 : decode cX5_init 0 = .ok (.aload_n 0, 1) := by decide +kernel
theorem dX5_init_1 : decode cX5_init 1 = .ok (.invokespecial 3, 3) := by decide +kernel
theorem dX5_init_4 : decode cX5_init 4 = .ok (.aload_n 0, 1) := by decide +kernel
theorem dX5_init_5 : decode cX5_init 5 = .ok (.bipush 11, 2) := by decide +kernel
theorem dX5_init_7 : decode cX5_init 7 = .ok (.anewarray 9, 3) := by decide +kernel
theorem dX5_init_10 : decode cX5_init 10 = .ok (.putfield 11, 3) := by decide +kernel
theorem dX5_init_13 : decode cX5_init 13 = .ok (.aload_n 0, 1) := by decide +kernel
theorem dX5_init_14 : decode cX5_init 14 = .ok (.new 9, 3) := by decide +kernel
theorem dX5_init_17 : decode cX5_init 17 = .ok (.dup, 1) := by decide +kernel
theorem dX5_init_18 : decode cX5_init 18 = .ok (.invokespecial 17, 3) := by decide +kernel
theorem dX5_init_21 : decode cX5_init 21 = .ok (.putfield 18, 3) := by decide +kernel
theorem dX5_init_24 : decode cX5_init 24 = .ok (.iconst 0, 1) := by decide +kernel
theorem dX5_init_25 : decode cX5_init 25 = .ok (.istore_n 1, 1) := by decide +kernel
theorem dX5_init_26 : decode cX5_init 26 = .ok (.iload_n 1, 1) := by decide +kernel
theorem dX5_init_27 : decode cX5_init 27 = .ok (.bipush 10, 2) := by decide +kernel
theorem dX5_init_29 : decode cX5_init 29 = .ok (.if_icmp .gt 22, 3) := by decide +kernel
theorem dX5_init_32 : decode cX5_init 32 = .ok (.aload_n 0, 1) := by decide +kernel
theorem dX5_init_33 : decode cX5_init 33 = .ok (.getfield 11, 3) := by decide +kernel
theorem dX5_init_36 : decode cX5_init 36 = .ok (.iload_n 1, 1) := by decide +kernel
theorem dX5_init_37 : decode cX5_init 37 = .ok (.new 9, 3) := by decide +kernel
theorem dX5_init_40 : decode cX5_init 40 = .ok (.dup, 1) := by decide +kernel
theorem dX5_init_41 : decode cX5_init 41 = .ok (.invokespecial 17, 3) := by decide +kernel
theorem dX5_init_44 : decode cX5_init 44 = .ok (.aastore, 1) := by decide +kernel
theorem dX5_init_45 : decode cX5_init 45 = .ok (.iinc 1 1, 3) := by decide +kernel
theorem dX5_init_48 : decode cX5_init 48 = .ok (.goto (-22), 3) := by decide +kernel
theorem dX5_init_51 : decode cX5_init 51 = .ok (.return_, 1) := by decide +kernel
def f_X5_init (σ : ml_St) (Q : ml_St → Prop) : Prop :=
(∀ j : Int, σ 77 j = 0) ∧
∀ σ2, σ2 = ml_up σ 76 0 77 →
(∀ j : Int, σ2 78 j = 0) ∧
f_X9_init σ2 78 (fun σ4 =>
∀ σ5, σ5 = ml_up σ4 76 1 78 →
σ5 76 0 = 77 ∧
(∀ j : Int, σ5 81 j = 0) ∧
f_X9_init σ5 81 (fun σ9 =>
∀ σ10, σ10 = ml_up σ9 77 0 81 →
σ10 76 0 = 77 ∧
(∀ j : Int, σ10 84 j = 0) ∧
f_X9_init σ10 84 (fun σ14 =>
∀ σ15, σ15 = ml_up σ14 77 1 84 →
σ15 76 0 = 77 ∧
(∀ j : Int, σ15 87 j = 0) ∧
f_X9_init σ15 87 (fun σ19 =>
∀ σ20, σ20 = ml_up σ19 77 2 87 →
σ20 76 0 = 77 ∧
(∀ j : Int, σ20 90 j = 0) ∧
f_X9_init σ20 90 (fun σ24 =>
∀ σ25, σ25 = ml_up σ24 77 3 90 →
σ25 76 0 = 77 ∧
(∀ j : Int, σ25 93 j = 0) ∧
f_X9_init σ25 93 (fun σ29 =>
∀ σ30, σ30 = ml_up σ29 77 4 93 →
σ30 76 0 = 77 ∧
(∀ j : Int, σ30 96 j = 0) ∧
f_X9_init σ30 96 (fun σ34 =>
∀ σ35, σ35 = ml_up σ34 77 5 96 →
σ35 76 0 = 77 ∧
(∀ j : Int, σ35 99 j = 0) ∧
f_X9_init σ35 99 (fun σ39 =>
∀ σ40, σ40 = ml_up σ39 77 6 99 →
σ40 76 0 = 77 ∧
(∀ j : Int, σ40 102 j = 0) ∧
f_X9_init σ40 102 (fun σ44 =>
∀ σ45, σ45 = ml_up σ44 77 7 102 →
σ45 76 0 = 77 ∧
(∀ j : Int, σ45 105 j = 0) ∧
f_X9_init σ45 105 (fun σ49 =>
∀ σ50, σ50 = ml_up σ49 77 8 105 →
σ50 76 0 = 77 ∧
(∀ j : Int, σ50 108 j = 0) ∧
f_X9_init σ50 108 (fun σ54 =>
∀ σ55, σ55 = ml_up σ54 77 9 108 →
σ55 76 0 = 77 ∧
(∀ j : Int, σ55 111 j = 0) ∧
f_X9_init σ55 111 (fun σ59 =>
∀ σ60, σ60 = ml_up σ59 77 10 111 →
Q σ60))))))))))))
def rm_X5_init : Room := { frames := 2, cells := 37, slots := 347, locals := 80 }
set_option maxRecDepth 100000 in
set_option maxHeartbeats 4000000 in
theorem c_X5_init (l : Launch) (base : Nat) (D : va_G) (cA : Nat → ClassId) (σ : ml_St) (Q : ml_St → Prop) (hw : f_X5_init σ Q) : Met l yX5_init (Cond.code yX5_init cX5_init 2 none :: ml_T) rm_X5_init (va_Pc [.ref (base + (76 : Int).toNat)] (ml_UC base D cA 76 σ)) (ml_QC base D cA (76 + 37) Q) 37 347 (ml_A base) := by
  refine Met.ofW (cc := cX5_init) (maxL := 2) (ret := none) (by decide) rfl ?_
  intro p e s m args below meth c s₁ B hml hv
  obtain ⟨rfl, ⟨hP, hK, hok⟩, hs, hNN⟩ := hv
  have hini : meth.name = "<init>" := (name_of_methodNamed B.named B.method).1
  have X : ml_X p s m c meth _ D cA cX5_init 2 RX5 none := ⟨B.exec, B.bytes, hml, findClass_of_methodNamed B.named, fun w hw => atoms_spec (ws := Cond.code yX5_init cX5_init 2 none :: ml_T) B.pre w (List.mem_cons_of_mem _ hw), hK, B.notSynchronized, B.returns⟩
  have hl := lv_entry [.ref (base + (76 : Int).toNat)] (n := 2) (Nat.le_of_ble_eq_true rfl)
  rw [lg_entry_eq]
  generalize (lg_sl [.ref (base + (76 : Int).toNat)] ++ List.replicate (2 - (lg_sl [.ref (base + (76 : Int).toNat)]).length) Slot.unset).toArray = ls at hl ⊢
  have hl : lv_has ls 2 [(0, .ref (base + (76 : Int).toNat))] := hl
  unfold f_X5_init at hw
  suffices hV : ml_V p l e rm_X5_init s m [.ref (base + (76 : Int).toNat)].toArray below meth c (MQ below (ml_QC base D cA (76 + 37) Q) [.ref (base + (76 : Int).toNat)].toArray s 37 347 (ml_A base)) base D cA 0 0 0 (76 + 0) σ (F0 m 0 ls []) from hV s.heap [] hP va_S.rf hok ml_RO0
  refine ml_aload_n (pc := 0) X hl 0 rfl rfl dX5_init_0 ?_
  refine ml_objInit (pc := 1) X ⟨tw_2_85, tw_1_24, tw_1_25⟩ hl ⟨by decide, by decide⟩ (Nat.le_of_ble_eq_true rfl) dX5_init_1 ?_
  refine ml_aload_n (pc := 4) X hl 0 rfl rfl dX5_init_4 ?_
  refine ml_bipush (pc := 5) X dX5_init_5 (by decide) ?_
  obtain ⟨z1, hw⟩ := hw
  refine ml_newR (n0 := 76) (kc := 0) (ks := 0) (pc := 7) (k := 77) X hs 5 11 tw_2_86 hNN.2.1 rfl (by omega) (by omega) (by decide +kernel) (fun f hf => by show _ = _; unfold ml_cell; simp only [hf]; rfl) z1 (by decide) ⟨by decide, by decide⟩ dX5_init_7 ?_
  refine ml_putF (pc := 10) (x := 77) (k := 76) X hini in_X5 rfl (by decide) tk_X5 nmX5 0 (by decide) rfl rfl tw_2_88 (ml_k76 (by decide)) dX5_init_10 (ml_fvA (by omega)) (show (0 : Int) ≤ 77 by omega) rfl rfl (Or.inl (by omega)) (fun σ2 g2 => ?_)
  have hw := hw σ2 g2
  refine ml_aload_n (pc := 13) X hl 0 rfl rfl dX5_init_13 ?_
  obtain ⟨z3, hw⟩ := hw
  refine ml_newO (n0 := 76) (kc := 1) (ks := 11) (pc := 14) (k := 78) X hs ⟨tw_2_86, tw_1_122, tw_1_7⟩ in_X9 rfl (by decide) tk_X9 df_X9 (Or.inr (by omega)) (by omega) (by decide +kernel) z3 ⟨by decide, by decide⟩ dX5_init_14 ?_
  refine ml_dup (pc := 17) X dX5_init_17 rfl ?_
  refine ml_callC (n0 := 76) (kc := 2) (ks := 19) (pc := 18) (k := 78) (mc := 2) (ms := 20) X hs hNN (c_X9_init l base D cA (76 + 2) 78 (by omega) (by decide +kernel) σ2 _ hw) ⟨⟨(List.mem_of_getElem? (i := 10) rfl), tw_1_124, tw_1_7, tw_1_125⟩, rfl, by decide +kernel⟩ ⟨rfl, rfl⟩ ⟨by decide, by decide⟩ (by omega) hl (Nat.le_of_ble_eq_true rfl) ⟨by decide, by decide⟩ dX5_init_18 (fun σ4 hw => ?_)
  refine ml_putF (pc := 21) (x := 78) (k := 76) X hini in_X5 rfl (by decide) tk_X5 nmX5 1 (by decide) rfl rfl tw_2_89 (ml_k76 (by decide)) dX5_init_21 (ml_fvO (by omega)) (show (0 : Int) ≤ 78 by omega) rfl rfl (Or.inl (by omega)) (fun σ5 g5 => ?_)
  have hw := hw σ5 g5
  refine ml_iconst (pc := 24) X dX5_init_24 ?_
  refine ml_istore_n (pc := 25) X rfl hl (by decide) (lst' := [(1, .int (Int32.ofInt 0)), (0, .ref (base + (76 : Int).toNat))]) rfl dX5_init_25 (fun ls hl => ?_)
  refine ml_iload_n (pc := 26) X hl 0 rfl rfl dX5_init_26 ?_
  refine ml_bipush (pc := 27) X dX5_init_27 (by decide) ?_
  refine ml_icmp_gt (pc := 29) (tgt := 51) X ⟨by decide, by decide⟩ ⟨by decide, by decide⟩ dX5_init_29 (by decide) (fun c6 => absurd c6 (by decide)) (fun c6 => ?_)
  refine ml_aload_n (pc := 32) X hl 1 rfl rfl dX5_init_32 ?_
  obtain ⟨e7, hw⟩ := hw
  refine ml_getg (pc := 33) (k := 76) X in_X5 rfl (by decide) 0 (by decide) tw_2_88 (ml_k76 (by decide)) dX5_init_33 (v := .ref (base + (77 : Int).toNat)) (fun _ => by show (if σ5 76 0 = 0 then Value.null else .ref (base + (σ5 76 0).toNat)) = _; rw [e7]; exact if_neg (by omega)) (fun _ => ?_)
  refine ml_iload_n (pc := 36) X hl 0 rfl rfl dX5_init_36 ?_
  obtain ⟨z8, hw⟩ := hw
  refine ml_newO (n0 := 76) (kc := 4) (ks := 39) (pc := 37) (k := 81) X hs ⟨tw_2_86, tw_1_122, tw_1_7⟩ in_X9 rfl (by decide) tk_X9 df_X9 (Or.inr (by omega)) (by omega) (by decide +kernel) z8 ⟨by decide, by decide⟩ dX5_init_37 ?_
  refine ml_dup (pc := 40) X dX5_init_40 rfl ?_
  refine ml_callC (n0 := 76) (kc := 5) (ks := 47) (pc := 41) (k := 81) (mc := 2) (ms := 20) X hs hNN (c_X9_init l base D cA (76 + 5) 81 (by omega) (by decide +kernel) σ5 _ hw) ⟨⟨(List.mem_of_getElem? (i := 10) rfl), tw_1_124, tw_1_7, tw_1_125⟩, rfl, by decide +kernel⟩ ⟨rfl, rfl⟩ ⟨by decide, by decide⟩ (by omega) hl (Nat.le_of_ble_eq_true rfl) ⟨by decide, by decide⟩ dX5_init_41 (fun σ9 hw => ?_)
  refine ml_aast (pc := 44) (k := 77) (i := 0) (v := 81) X (ml_k77 (by decide)) (fun _ => rfl) rfl (ml_k81 (by decide)) (by decide) rfl (Or.inl (by decide +kernel)) (by decide) (by decide) dX5_init_44 (fun σ10 g10 => ?_)
  have hw := hw σ10 g10
  refine ml_iinc (pc := 45) X (x := 0) (y := 1) (by decide) hl 0 rfl (by decide) (lst' := [(1, .int (Int32.ofInt 1)), (0, .ref (base + (76 : Int).toNat))]) rfl dX5_init_45 (fun ls hl => ?_)
  refine ml_goto (pc := 48) (tgt := 26) X dX5_init_48 (by decide) ?_
  refine ml_iload_n (pc := 26) X hl 0 rfl rfl dX5_init_26 ?_
  refine ml_bipush (pc := 27) X dX5_init_27 (by decide) ?_
  refine ml_icmp_gt (pc := 29) (tgt := 51) X ⟨by decide, by decide⟩ ⟨by decide, by decide⟩ dX5_init_29 (by decide) (fun c11 => absurd c11 (by decide)) (fun c11 => ?_)
  refine ml_aload_n (pc := 32) X hl 1 rfl rfl dX5_init_32 ?_
  obtain ⟨e12, hw⟩ := hw
  refine ml_getg (pc := 33) (k := 76) X in_X5 rfl (by decide) 0 (by decide) tw_2_88 (ml_k76 (by decide)) dX5_init_33 (v := .ref (base + (77 : Int).toNat)) (fun _ => by show (if σ10 76 0 = 0 then Value.null else .ref (base + (σ10 76 0).toNat)) = _; rw [e12]; exact if_neg (by omega)) (fun _ => ?_)
  refine ml_iload_n (pc := 36) X hl 0 rfl rfl dX5_init_36 ?_
  obtain ⟨z13, hw⟩ := hw
  refine ml_newO (n0 := 76) (kc := 7) (ks := 67) (pc := 37) (k := 84) X hs ⟨tw_2_86, tw_1_122, tw_1_7⟩ in_X9 rfl (by decide) tk_X9 df_X9 (Or.inr (by omega)) (by omega) (by decide +kernel) z13 ⟨by decide, by decide⟩ dX5_init_37 ?_
  refine ml_dup (pc := 40) X dX5_init_40 rfl ?_
  refine ml_callC (n0 := 76) (kc := 8) (ks := 75) (pc := 41) (k := 84) (mc := 2) (ms := 20) X hs hNN (c_X9_init l base D cA (76 + 8) 84 (by omega) (by decide +kernel) σ10 _ hw) ⟨⟨(List.mem_of_getElem? (i := 10) rfl), tw_1_124, tw_1_7, tw_1_125⟩, rfl, by decide +kernel⟩ ⟨rfl, rfl⟩ ⟨by decide, by decide⟩ (by omega) hl (Nat.le_of_ble_eq_true rfl) ⟨by decide, by decide⟩ dX5_init_41 (fun σ14 hw => ?_)
  refine ml_aast (pc := 44) (k := 77) (i := 1) (v := 84) X (ml_k77 (by decide)) (fun _ => rfl) rfl (ml_k84 (by decide)) (by decide) rfl (Or.inl (by decide +kernel)) (by decide) (by decide) dX5_init_44 (fun σ15 g15 => ?_)
  have hw := hw σ15 g15
  refine ml_iinc (pc := 45) X (x := 1) (y := 2) (by decide) hl 0 rfl (by decide) (lst' := [(1, .int (Int32.ofInt 2)), (0, .ref (base + (76 : Int).toNat))]) rfl dX5_init_45 (fun ls hl => ?_)
  refine ml_goto (pc := 48) (tgt := 26) X dX5_init_48 (by decide) ?_
  refine ml_iload_n (pc := 26) X hl 0 rfl rfl dX5_init_26 ?_
  refine ml_bipush (pc := 27) X dX5_init_27 (by decide) ?_
  refine ml_icmp_gt (pc := 29) (tgt := 51) X ⟨by decide, by decide⟩ ⟨by decide, by decide⟩ dX5_init_29 (by decide) (fun c16 => absurd c16 (by decide)) (fun c16 => ?_)
  refine ml_aload_n (pc := 32) X hl 1 rfl rfl dX5_init_32 ?_
  obtain ⟨e17, hw⟩ := hw
  refine ml_getg (pc := 33) (k := 76) X in_X5 rfl (by decide) 0 (by decide) tw_2_88 (ml_k76 (by decide)) dX5_init_33 (v := .ref (base + (77 : Int).toNat)) (fun _ => by show (if σ15 76 0 = 0 then Value.null else .ref (base + (σ15 76 0).toNat)) = _; rw [e17]; exact if_neg (by omega)) (fun _ => ?_)
  refine ml_iload_n (pc := 36) X hl 0 rfl rfl dX5_init_36 ?_
  obtain ⟨z18, hw⟩ := hw
  refine ml_newO (n0 := 76) (kc := 10) (ks := 95) (pc := 37) (k := 87) X hs ⟨tw_2_86, tw_1_122, tw_1_7⟩ in_X9 rfl (by decide) tk_X9 df_X9 (Or.inr (by omega)) (by omega) (by decide +kernel) z18 ⟨by decide, by decide⟩ dX5_init_37 ?_
  refine ml_dup (pc := 40) X dX5_init_40 rfl ?_
  refine ml_callC (n0 := 76) (kc := 11) (ks := 103) (pc := 41) (k := 87) (mc := 2) (ms := 20) X hs hNN (c_X9_init l base D cA (76 + 11) 87 (by omega) (by decide +kernel) σ15 _ hw) ⟨⟨(List.mem_of_getElem? (i := 10) rfl), tw_1_124, tw_1_7, tw_1_125⟩, rfl, by decide +kernel⟩ ⟨rfl, rfl⟩ ⟨by decide, by decide⟩ (by omega) hl (Nat.le_of_ble_eq_true rfl) ⟨by decide, by decide⟩ dX5_init_41 (fun σ19 hw => ?_)
  refine ml_aast (pc := 44) (k := 77) (i := 2) (v := 87) X (ml_k77 (by decide)) (fun _ => rfl) rfl (ml_k87 (by decide)) (by decide) rfl (Or.inl (by decide +kernel)) (by decide) (by decide) dX5_init_44 (fun σ20 g20 => ?_)
  have hw := hw σ20 g20
  refine ml_iinc (pc := 45) X (x := 2) (y := 3) (by decide) hl 0 rfl (by decide) (lst' := [(1, .int (Int32.ofInt 3)), (0, .ref (base + (76 : Int).toNat))]) rfl dX5_init_45 (fun ls hl => ?_)
  refine ml_goto (pc := 48) (tgt := 26) X dX5_init_48 (by decide) ?_
  refine ml_iload_n (pc := 26) X hl 0 rfl rfl dX5_init_26 ?_
  refine ml_bipush (pc := 27) X dX5_init_27 (by decide) ?_
  refine ml_icmp_gt (pc := 29) (tgt := 51) X ⟨by decide, by decide⟩ ⟨by decide, by decide⟩ dX5_init_29 (by decide) (fun c21 => absurd c21 (by decide)) (fun c21 => ?_)
  refine ml_aload_n (pc := 32) X hl 1 rfl rfl dX5_init_32 ?_
  obtain ⟨e22, hw⟩ := hw
  refine ml_getg (pc := 33) (k := 76) X in_X5 rfl (by decide) 0 (by decide) tw_2_88 (ml_k76 (by decide)) dX5_init_33 (v := .ref (base + (77 : Int).toNat)) (fun _ => by show (if σ20 76 0 = 0 then Value.null else .ref (base + (σ20 76 0).toNat)) = _; rw [e22]; exact if_neg (by omega)) (fun _ => ?_)
  refine ml_iload_n (pc := 36) X hl 0 rfl rfl dX5_init_36 ?_
  obtain ⟨z23, hw⟩ := hw
  refine ml_newO (n0 := 76) (kc := 13) (ks := 123) (pc := 37) (k := 90) X hs ⟨tw_2_86, tw_1_122, tw_1_7⟩ in_X9 rfl (by decide) tk_X9 df_X9 (Or.inr (by omega)) (by omega) (by decide +kernel) z23 ⟨by decide, by decide⟩ dX5_init_37 ?_
  refine ml_dup (pc := 40) X dX5_init_40 rfl ?_
  refine ml_callC (n0 := 76) (kc := 14) (ks := 131) (pc := 41) (k := 90) (mc := 2) (ms := 20) X hs hNN (c_X9_init l base D cA (76 + 14) 90 (by omega) (by decide +kernel) σ20 _ hw) ⟨⟨(List.mem_of_getElem? (i := 10) rfl), tw_1_124, tw_1_7, tw_1_125⟩, rfl, by decide +kernel⟩ ⟨rfl, rfl⟩ ⟨by decide, by decide⟩ (by omega) hl (Nat.le_of_ble_eq_true rfl) ⟨by decide, by decide⟩ dX5_init_41 (fun σ24 hw => ?_)
  refine ml_aast (pc := 44) (k := 77) (i := 3) (v := 90) X (ml_k77 (by decide)) (fun _ => rfl) rfl (ml_k90 (by decide)) (by decide) rfl (Or.inl (by decide +kernel)) (by decide) (by decide) dX5_init_44 (fun σ25 g25 => ?_)
  have hw := hw σ25 g25
  refine ml_iinc (pc := 45) X (x := 3) (y := 4) (by decide) hl 0 rfl (by decide) (lst' := [(1, .int (Int32.ofInt 4)), (0, .ref (base + (76 : Int).toNat))]) rfl dX5_init_45 (fun ls hl => ?_)
  refine ml_goto (pc := 48) (tgt := 26) X dX5_init_48 (by decide) ?_
  refine ml_iload_n (pc := 26) X hl 0 rfl rfl dX5_init_26 ?_
  refine ml_bipush (pc := 27) X dX5_init_27 (by decide) ?_
  refine ml_icmp_gt (pc := 29) (tgt := 51) X ⟨by decide, by decide⟩ ⟨by decide, by decide⟩ dX5_init_29 (by decide) (fun c26 => absurd c26 (by decide)) (fun c26 => ?_)
  refine ml_aload_n (pc := 32) X hl 1 rfl rfl dX5_init_32 ?_
  obtain ⟨e27, hw⟩ := hw
  refine ml_getg (pc := 33) (k := 76) X in_X5 rfl (by decide) 0 (by decide) tw_2_88 (ml_k76 (by decide)) dX5_init_33 (v := .ref (base + (77 : Int).toNat)) (fun _ => by show (if σ25 76 0 = 0 then Value.null else .ref (base + (σ25 76 0).toNat)) = _; rw [e27]; exact if_neg (by omega)) (fun _ => ?_)
  refine ml_iload_n (pc := 36) X hl 0 rfl rfl dX5_init_36 ?_
  obtain ⟨z28, hw⟩ := hw
  refine ml_newO (n0 := 76) (kc := 16) (ks := 151) (pc := 37) (k := 93) X hs ⟨tw_2_86, tw_1_122, tw_1_7⟩ in_X9 rfl (by decide) tk_X9 df_X9 (Or.inr (by omega)) (by omega) (by decide +kernel) z28 ⟨by decide, by decide⟩ dX5_init_37 ?_
  refine ml_dup (pc := 40) X dX5_init_40 rfl ?_
  refine ml_callC (n0 := 76) (kc := 17) (ks := 159) (pc := 41) (k := 93) (mc := 2) (ms := 20) X hs hNN (c_X9_init l base D cA (76 + 17) 93 (by omega) (by decide +kernel) σ25 _ hw) ⟨⟨(List.mem_of_getElem? (i := 10) rfl), tw_1_124, tw_1_7, tw_1_125⟩, rfl, by decide +kernel⟩ ⟨rfl, rfl⟩ ⟨by decide, by decide⟩ (by omega) hl (Nat.le_of_ble_eq_true rfl) ⟨by decide, by decide⟩ dX5_init_41 (fun σ29 hw => ?_)
  refine ml_aast (pc := 44) (k := 77) (i := 4) (v := 93) X (ml_k77 (by decide)) (fun _ => rfl) rfl (ml_k93 (by decide)) (by decide) rfl (Or.inl (by decide +kernel)) (by decide) (by decide) dX5_init_44 (fun σ30 g30 => ?_)
  have hw := hw σ30 g30
  refine ml_iinc (pc := 45) X (x := 4) (y := 5) (by decide) hl 0 rfl (by decide) (lst' := [(1, .int (Int32.ofInt 5)), (0, .ref (base + (76 : Int).toNat))]) rfl dX5_init_45 (fun ls hl => ?_)
  refine ml_goto (pc := 48) (tgt := 26) X dX5_init_48 (by decide) ?_
  refine ml_iload_n (pc := 26) X hl 0 rfl rfl dX5_init_26 ?_
  refine ml_bipush (pc := 27) X dX5_init_27 (by decide) ?_
  refine ml_icmp_gt (pc := 29) (tgt := 51) X ⟨by decide, by decide⟩ ⟨by decide, by decide⟩ dX5_init_29 (by decide) (fun c31 => absurd c31 (by decide)) (fun c31 => ?_)
  refine ml_aload_n (pc := 32) X hl 1 rfl rfl dX5_init_32 ?_
  obtain ⟨e32, hw⟩ := hw
  refine ml_getg (pc := 33) (k := 76) X in_X5 rfl (by decide) 0 (by decide) tw_2_88 (ml_k76 (by decide)) dX5_init_33 (v := .ref (base + (77 : Int).toNat)) (fun _ => by show (if σ30 76 0 = 0 then Value.null else .ref (base + (σ30 76 0).toNat)) = _; rw [e32]; exact if_neg (by omega)) (fun _ => ?_)
  refine ml_iload_n (pc := 36) X hl 0 rfl rfl dX5_init_36 ?_
  obtain ⟨z33, hw⟩ := hw
  refine ml_newO (n0 := 76) (kc := 19) (ks := 179) (pc := 37) (k := 96) X hs ⟨tw_2_86, tw_1_122, tw_1_7⟩ in_X9 rfl (by decide) tk_X9 df_X9 (Or.inr (by omega)) (by omega) (by decide +kernel) z33 ⟨by decide, by decide⟩ dX5_init_37 ?_
  refine ml_dup (pc := 40) X dX5_init_40 rfl ?_
  refine ml_callC (n0 := 76) (kc := 20) (ks := 187) (pc := 41) (k := 96) (mc := 2) (ms := 20) X hs hNN (c_X9_init l base D cA (76 + 20) 96 (by omega) (by decide +kernel) σ30 _ hw) ⟨⟨(List.mem_of_getElem? (i := 10) rfl), tw_1_124, tw_1_7, tw_1_125⟩, rfl, by decide +kernel⟩ ⟨rfl, rfl⟩ ⟨by decide, by decide⟩ (by omega) hl (Nat.le_of_ble_eq_true rfl) ⟨by decide, by decide⟩ dX5_init_41 (fun σ34 hw => ?_)
  refine ml_aast (pc := 44) (k := 77) (i := 5) (v := 96) X (ml_k77 (by decide)) (fun _ => rfl) rfl (ml_k96 (by decide)) (by decide) rfl (Or.inl (by decide +kernel)) (by decide) (by decide) dX5_init_44 (fun σ35 g35 => ?_)
  have hw := hw σ35 g35
  refine ml_iinc (pc := 45) X (x := 5) (y := 6) (by decide) hl 0 rfl (by decide) (lst' := [(1, .int (Int32.ofInt 6)), (0, .ref (base + (76 : Int).toNat))]) rfl dX5_init_45 (fun ls hl => ?_)
  refine ml_goto (pc := 48) (tgt := 26) X dX5_init_48 (by decide) ?_
  refine ml_iload_n (pc := 26) X hl 0 rfl rfl dX5_init_26 ?_
  refine ml_bipush (pc := 27) X dX5_init_27 (by decide) ?_
  refine ml_icmp_gt (pc := 29) (tgt := 51) X ⟨by decide, by decide⟩ ⟨by decide, by decide⟩ dX5_init_29 (by decide) (fun c36 => absurd c36 (by decide)) (fun c36 => ?_)
  refine ml_aload_n (pc := 32) X hl 1 rfl rfl dX5_init_32 ?_
  obtain ⟨e37, hw⟩ := hw
  refine ml_getg (pc := 33) (k := 76) X in_X5 rfl (by decide) 0 (by decide) tw_2_88 (ml_k76 (by decide)) dX5_init_33 (v := .ref (base + (77 : Int).toNat)) (fun _ => by show (if σ35 76 0 = 0 then Value.null else .ref (base + (σ35 76 0).toNat)) = _; rw [e37]; exact if_neg (by omega)) (fun _ => ?_)
  refine ml_iload_n (pc := 36) X hl 0 rfl rfl dX5_init_36 ?_
  obtain ⟨z38, hw⟩ := hw
  refine ml_newO (n0 := 76) (kc := 22) (ks := 207) (pc := 37) (k := 99) X hs ⟨tw_2_86, tw_1_122, tw_1_7⟩ in_X9 rfl (by decide) tk_X9 df_X9 (Or.inr (by omega)) (by omega) (by decide +kernel) z38 ⟨by decide, by decide⟩ dX5_init_37 ?_
  refine ml_dup (pc := 40) X dX5_init_40 rfl ?_
  refine ml_callC (n0 := 76) (kc := 23) (ks := 215) (pc := 41) (k := 99) (mc := 2) (ms := 20) X hs hNN (c_X9_init l base D cA (76 + 23) 99 (by omega) (by decide +kernel) σ35 _ hw) ⟨⟨(List.mem_of_getElem? (i := 10) rfl), tw_1_124, tw_1_7, tw_1_125⟩, rfl, by decide +kernel⟩ ⟨rfl, rfl⟩ ⟨by decide, by decide⟩ (by omega) hl (Nat.le_of_ble_eq_true rfl) ⟨by decide, by decide⟩ dX5_init_41 (fun σ39 hw => ?_)
  refine ml_aast (pc := 44) (k := 77) (i := 6) (v := 99) X (ml_k77 (by decide)) (fun _ => rfl) rfl (ml_k99 (by decide)) (by decide) rfl (Or.inl (by decide +kernel)) (by decide) (by decide) dX5_init_44 (fun σ40 g40 => ?_)
  have hw := hw σ40 g40
  refine ml_iinc (pc := 45) X (x := 6) (y := 7) (by decide) hl 0 rfl (by decide) (lst' := [(1, .int (Int32.ofInt 7)), (0, .ref (base + (76 : Int).toNat))]) rfl dX5_init_45 (fun ls hl => ?_)
  refine ml_goto (pc := 48) (tgt := 26) X dX5_init_48 (by decide) ?_
  refine ml_iload_n (pc := 26) X hl 0 rfl rfl dX5_init_26 ?_
  refine ml_bipush (pc := 27) X dX5_init_27 (by decide) ?_
  refine ml_icmp_gt (pc := 29) (tgt := 51) X ⟨by decide, by decide⟩ ⟨by decide, by decide⟩ dX5_init_29 (by decide) (fun c41 => absurd c41 (by decide)) (fun c41 => ?_)
  refine ml_aload_n (pc := 32) X hl 1 rfl rfl dX5_init_32 ?_
  obtain ⟨e42, hw⟩ := hw
  refine ml_getg (pc := 33) (k := 76) X in_X5 rfl (by decide) 0 (by decide) tw_2_88 (ml_k76 (by decide)) dX5_init_33 (v := .ref (base + (77 : Int).toNat)) (fun _ => by show (if σ40 76 0 = 0 then Value.null else .ref (base + (σ40 76 0).toNat)) = _; rw [e42]; exact if_neg (by omega)) (fun _ => ?_)
  refine ml_iload_n (pc := 36) X hl 0 rfl rfl dX5_init_36 ?_
  obtain ⟨z43, hw⟩ := hw
  refine ml_newO (n0 := 76) (kc := 25) (ks := 235) (pc := 37) (k := 102) X hs ⟨tw_2_86, tw_1_122, tw_1_7⟩ in_X9 rfl (by decide) tk_X9 df_X9 (Or.inr (by omega)) (by omega) (by decide +kernel) z43 ⟨by decide, by decide⟩ dX5_init_37 ?_
  refine ml_dup (pc := 40) X dX5_init_40 rfl ?_
  refine ml_callC (n0 := 76) (kc := 26) (ks := 243) (pc := 41) (k := 102) (mc := 2) (ms := 20) X hs hNN (c_X9_init l base D cA (76 + 26) 102 (by omega) (by decide +kernel) σ40 _ hw) ⟨⟨(List.mem_of_getElem? (i := 10) rfl), tw_1_124, tw_1_7, tw_1_125⟩, rfl, by decide +kernel⟩ ⟨rfl, rfl⟩ ⟨by decide, by decide⟩ (by omega) hl (Nat.le_of_ble_eq_true rfl) ⟨by decide, by decide⟩ dX5_init_41 (fun σ44 hw => ?_)
  refine ml_aast (pc := 44) (k := 77) (i := 7) (v := 102) X (ml_k77 (by decide)) (fun _ => rfl) rfl (ml_k102 (by decide)) (by decide) rfl (Or.inl (by decide +kernel)) (by decide) (by decide) dX5_init_44 (fun σ45 g45 => ?_)
  have hw := hw σ45 g45
  refine ml_iinc (pc := 45) X (x := 7) (y := 8) (by decide) hl 0 rfl (by decide) (lst' := [(1, .int (Int32.ofInt 8)), (0, .ref (base + (76 : Int).toNat))]) rfl dX5_init_45 (fun ls hl => ?_)
  refine ml_goto (pc := 48) (tgt := 26) X dX5_init_48 (by decide) ?_
  refine ml_iload_n (pc := 26) X hl 0 rfl rfl dX5_init_26 ?_
  refine ml_bipush (pc := 27) X dX5_init_27 (by decide) ?_
  refine ml_icmp_gt (pc := 29) (tgt := 51) X ⟨by decide, by decide⟩ ⟨by decide, by decide⟩ dX5_init_29 (by decide) (fun c46 => absurd c46 (by decide)) (fun c46 => ?_)
  refine ml_aload_n (pc := 32) X hl 1 rfl rfl dX5_init_32 ?_
  obtain ⟨e47, hw⟩ := hw
  refine ml_getg (pc := 33) (k := 76) X in_X5 rfl (by decide) 0 (by decide) tw_2_88 (ml_k76 (by decide)) dX5_init_33 (v := .ref (base + (77 : Int).toNat)) (fun _ => by show (if σ45 76 0 = 0 then Value.null else .ref (base + (σ45 76 0).toNat)) = _; rw [e47]; exact if_neg (by omega)) (fun _ => ?_)
  refine ml_iload_n (pc := 36) X hl 0 rfl rfl dX5_init_36 ?_
  obtain ⟨z48, hw⟩ := hw
  refine ml_newO (n0 := 76) (kc := 28) (ks := 263) (pc := 37) (k := 105) X hs ⟨tw_2_86, tw_1_122, tw_1_7⟩ in_X9 rfl (by decide) tk_X9 df_X9 (Or.inr (by omega)) (by omega) (by decide +kernel) z48 ⟨by decide, by decide⟩ dX5_init_37 ?_
  refine ml_dup (pc := 40) X dX5_init_40 rfl ?_
  refine ml_callC (n0 := 76) (kc := 29) (ks := 271) (pc := 41) (k := 105) (mc := 2) (ms := 20) X hs hNN (c_X9_init l base D cA (76 + 29) 105 (by omega) (by decide +kernel) σ45 _ hw) ⟨⟨(List.mem_of_getElem? (i := 10) rfl), tw_1_124, tw_1_7, tw_1_125⟩, rfl, by decide +kernel⟩ ⟨rfl, rfl⟩ ⟨by decide, by decide⟩ (by omega) hl (Nat.le_of_ble_eq_true rfl) ⟨by decide, by decide⟩ dX5_init_41 (fun σ49 hw => ?_)
  refine ml_aast (pc := 44) (k := 77) (i := 8) (v := 105) X (ml_k77 (by decide)) (fun _ => rfl) rfl (ml_k105 (by decide)) (by decide) rfl (Or.inl (by decide +kernel)) (by decide) (by decide) dX5_init_44 (fun σ50 g50 => ?_)
  have hw := hw σ50 g50
  refine ml_iinc (pc := 45) X (x := 8) (y := 9) (by decide) hl 0 rfl (by decide) (lst' := [(1, .int (Int32.ofInt 9)), (0, .ref (base + (76 : Int).toNat))]) rfl dX5_init_45 (fun ls hl => ?_)
  refine ml_goto (pc := 48) (tgt := 26) X dX5_init_48 (by decide) ?_
  refine ml_iload_n (pc := 26) X hl 0 rfl rfl dX5_init_26 ?_
  refine ml_bipush (pc := 27) X dX5_init_27 (by decide) ?_
  refine ml_icmp_gt (pc := 29) (tgt := 51) X ⟨by decide, by decide⟩ ⟨by decide, by decide⟩ dX5_init_29 (by decide) (fun c51 => absurd c51 (by decide)) (fun c51 => ?_)
  refine ml_aload_n (pc := 32) X hl 1 rfl rfl dX5_init_32 ?_
  obtain ⟨e52, hw⟩ := hw
  refine ml_getg (pc := 33) (k := 76) X in_X5 rfl (by decide) 0 (by decide) tw_2_88 (ml_k76 (by decide)) dX5_init_33 (v := .ref (base + (77 : Int).toNat)) (fun _ => by show (if σ50 76 0 = 0 then Value.null else .ref (base + (σ50 76 0).toNat)) = _; rw [e52]; exact if_neg (by omega)) (fun _ => ?_)
  refine ml_iload_n (pc := 36) X hl 0 rfl rfl dX5_init_36 ?_
  obtain ⟨z53, hw⟩ := hw
  refine ml_newO (n0 := 76) (kc := 31) (ks := 291) (pc := 37) (k := 108) X hs ⟨tw_2_86, tw_1_122, tw_1_7⟩ in_X9 rfl (by decide) tk_X9 df_X9 (Or.inr (by omega)) (by omega) (by decide +kernel) z53 ⟨by decide, by decide⟩ dX5_init_37 ?_
  refine ml_dup (pc := 40) X dX5_init_40 rfl ?_
  refine ml_callC (n0 := 76) (kc := 32) (ks := 299) (pc := 41) (k := 108) (mc := 2) (ms := 20) X hs hNN (c_X9_init l base D cA (76 + 32) 108 (by omega) (by decide +kernel) σ50 _ hw) ⟨⟨(List.mem_of_getElem? (i := 10) rfl), tw_1_124, tw_1_7, tw_1_125⟩, rfl, by decide +kernel⟩ ⟨rfl, rfl⟩ ⟨by decide, by decide⟩ (by omega) hl (Nat.le_of_ble_eq_true rfl) ⟨by decide, by decide⟩ dX5_init_41 (fun σ54 hw => ?_)
  refine ml_aast (pc := 44) (k := 77) (i := 9) (v := 108) X (ml_k77 (by decide)) (fun _ => rfl) rfl (ml_k108 (by decide)) (by decide) rfl (Or.inl (by decide +kernel)) (by decide) (by decide) dX5_init_44 (fun σ55 g55 => ?_)
  have hw := hw σ55 g55
  refine ml_iinc (pc := 45) X (x := 9) (y := 10) (by decide) hl 0 rfl (by decide) (lst' := [(1, .int (Int32.ofInt 10)), (0, .ref (base + (76 : Int).toNat))]) rfl dX5_init_45 (fun ls hl => ?_)
  refine ml_goto (pc := 48) (tgt := 26) X dX5_init_48 (by decide) ?_
  refine ml_iload_n (pc := 26) X hl 0 rfl rfl dX5_init_26 ?_
  refine ml_bipush (pc := 27) X dX5_init_27 (by decide) ?_
  refine ml_icmp_gt (pc := 29) (tgt := 51) X ⟨by decide, by decide⟩ ⟨by decide, by decide⟩ dX5_init_29 (by decide) (fun c56 => absurd c56 (by decide)) (fun c56 => ?_)
  refine ml_aload_n (pc := 32) X hl 1 rfl rfl dX5_init_32 ?_
  obtain ⟨e57, hw⟩ := hw
  refine ml_getg (pc := 33) (k := 76) X in_X5 rfl (by decide) 0 (by decide) tw_2_88 (ml_k76 (by decide)) dX5_init_33 (v := .ref (base + (77 : Int).toNat)) (fun _ => by show (if σ55 76 0 = 0 then Value.null else .ref (base + (σ55 76 0).toNat)) = _; rw [e57]; exact if_neg (by omega)) (fun _ => ?_)
  refine ml_iload_n (pc := 36) X hl 0 rfl rfl dX5_init_36 ?_
  obtain ⟨z58, hw⟩ := hw
  refine ml_newO (n0 := 76) (kc := 34) (ks := 319) (pc := 37) (k := 111) X hs ⟨tw_2_86, tw_1_122, tw_1_7⟩ in_X9 rfl (by decide) tk_X9 df_X9 (Or.inr (by omega)) (by omega) (by decide +kernel) z58 ⟨by decide, by decide⟩ dX5_init_37 ?_
  refine ml_dup (pc := 40) X dX5_init_40 rfl ?_
  refine ml_callC (n0 := 76) (kc := 35) (ks := 327) (pc := 41) (k := 111) (mc := 2) (ms := 20) X hs hNN (c_X9_init l base D cA (76 + 35) 111 (by omega) (by decide +kernel) σ55 _ hw) ⟨⟨(List.mem_of_getElem? (i := 10) rfl), tw_1_124, tw_1_7, tw_1_125⟩, rfl, by decide +kernel⟩ ⟨rfl, rfl⟩ ⟨by decide, by decide⟩ (by omega) hl (Nat.le_of_ble_eq_true rfl) ⟨by decide, by decide⟩ dX5_init_41 (fun σ59 hw => ?_)
  refine ml_aast (pc := 44) (k := 77) (i := 10) (v := 111) X (ml_k77 (by decide)) (fun _ => rfl) rfl (ml_k111 (by decide)) (by decide) rfl (Or.inl (by decide +kernel)) (by decide) (by decide) dX5_init_44 (fun σ60 g60 => ?_)
  have hw := hw σ60 g60
  refine ml_iinc (pc := 45) X (x := 10) (y := 11) (by decide) hl 0 rfl (by decide) (lst' := [(1, .int (Int32.ofInt 11)), (0, .ref (base + (76 : Int).toNat))]) rfl dX5_init_45 (fun ls hl => ?_)
  refine ml_goto (pc := 48) (tgt := 26) X dX5_init_48 (by decide) ?_
  refine ml_iload_n (pc := 26) X hl 0 rfl rfl dX5_init_26 ?_
  refine ml_bipush (pc := 27) X dX5_init_27 (by decide) ?_
  refine ml_icmp_gt (pc := 29) (tgt := 51) X ⟨by decide, by decide⟩ ⟨by decide, by decide⟩ dX5_init_29 (by decide) (fun c61 => ?_) (fun c61 => absurd c61 (by decide))
  exact ml_vretC (pc := 51) X hw dX5_init_51
theorem dX10_init_0 : decode cX10_init 0 = .ok (.aload_n 0, 1) := by decide +kernel
theorem dX10_init_1 : decode cX10_init 1 = .ok (.invokespecial 3, 3) := by decide +kernel
theorem dX10_init_4 : decode cX10_init 4 = .ok (.aload_n 0, 1) := by decide +kernel
theorem dX10_init_5 : decode cX10_init 5 = .ok (.bipush 100, 2) := by decide +kernel
theorem dX10_init_7 : decode cX10_init 7 = .ok (.newarray .byte, 2) := by decide +kernel
theorem dX10_init_9 : decode cX10_init 9 = .ok (.putfield 9, 3) := by decide +kernel
theorem dX10_init_12 : decode cX10_init 12 = .ok (.aload_n 0, 1) := by decide +kernel
theorem dX10_init_13 : decode cX10_init 13 = .ok (.iconst 0, 1) := by decide +kernel
theorem dX10_init_14 : decode cX10_init 14 = .ok (.putfield 15, 3) := by decide +kernel
theorem dX10_init_17 : decode cX10_init 17 = .ok (.aload_n 0, 1) := by decide +kernel
theorem dX10_init_18 : decode cX10_init 18 = .ok (.iconst 0, 1) := by decide +kernel
theorem dX10_init_19 : decode cX10_init 19 = .ok (.putfield 19, 3) := by decide +kernel
theorem dX10_init_22 : decode cX10_init 22 = .ok (.aload_n 0, 1) := by decide +kernel
theorem dX10_init_23 : decode cX10_init 23 = .ok (.iconst 1, 1) := by decide +kernel
theorem dX10_init_24 : decode cX10_init 24 = .ok (.putfield 23, 3) := by decide +kernel
theorem dX10_init_27 : decode cX10_init 27 = .ok (.aload_n 0, 1) := by decide +kernel
theorem dX10_init_28 : decode cX10_init 28 = .ok (.new 26, 3) := by decide +kernel
theorem dX10_init_31 : decode cX10_init 31 = .ok (.dup, 1) := by decide +kernel
theorem dX10_init_32 : decode cX10_init 32 = .ok (.invokespecial 28, 3) := by decide +kernel
theorem dX10_init_35 : decode cX10_init 35 = .ok (.putfield 29, 3) := by decide +kernel
theorem dX10_init_38 : decode cX10_init 38 = .ok (.aload_n 0, 1) := by decide +kernel
theorem dX10_init_39 : decode cX10_init 39 = .ok (.sipush 2000, 3) := by decide +kernel
theorem dX10_init_42 : decode cX10_init 42 = .ok (.newarray .byte, 2) := by decide +kernel
theorem dX10_init_44 : decode cX10_init 44 = .ok (.putfield 33, 3) := by decide +kernel
theorem dX10_init_47 : decode cX10_init 47 = .ok (.aload_n 0, 1) := by decide +kernel
theorem dX10_init_48 : decode cX10_init 48 = .ok (.iconst 0, 1) := by decide +kernel
theorem dX10_init_49 : decode cX10_init 49 = .ok (.putfield 36, 3) := by decide +kernel
theorem dX10_init_52 : decode cX10_init 52 = .ok (.aload_n 0, 1) := by decide +kernel
theorem dX10_init_53 : decode cX10_init 53 = .ok (.iconst 0, 1) := by decide +kernel
theorem dX10_init_54 : decode cX10_init 54 = .ok (.putfield 39, 3) := by decide +kernel
theorem dX10_init_57 : decode cX10_init 57 = .ok (.return_, 1) := by decide +kernel
def f_X10_init (σ : ml_St) (th : Int) (Q : ml_St → Prop) : Prop :=
(∀ j : Int, σ (th + 1) j = 0) ∧
∀ σ2, σ2 = ml_up σ th 0 (th + 1) →
∀ σ3, σ3 = ml_up σ2 th 1 0 →
∀ σ4, σ4 = ml_up σ3 th 2 0 →
∀ σ5, σ5 = ml_up σ4 th 3 1 →
(∀ j : Int, σ5 (th + 2) j = 0) ∧
f_X9_init σ5 (th + 2) (fun σ7 =>
∀ σ8, σ8 = ml_up σ7 th 4 (th + 2) →
(∀ j : Int, σ8 (th + 5) j = 0) ∧
∀ σ10, σ10 = ml_up σ8 th 5 (th + 5) →
∀ σ11, σ11 = ml_up σ10 th 6 0 →
∀ σ12, σ12 = ml_up σ11 th 7 0 →
Q σ12)
def rm_X10_init : Room := { frames := 2, cells := 5, slots := 2128, locals := 80 }
set_option maxRecDepth 100000 in
set_option maxHeartbeats 4000000 in
theorem c_X10_init (l : Launch) (base : Nat) (D : va_G) (cA : Nat → ClassId) (n : Nat) (th : Int) (hth : th = (n : Int)) (hlay : ml_lay th = (20, 8)) (σ : ml_St) (Q : ml_St → Prop) (hw : f_X10_init σ th Q) : Met l yX10_init (Cond.code yX10_init cX10_init 1 none :: ml_T) rm_X10_init (va_Pc [.ref (base + (th : Int).toNat)] (ml_UC base D cA n σ)) (ml_QC base D cA (n + 5) Q) 5 2128 (ml_A base) := by
  refine Met.ofW (cc := cX10_init) (maxL := 1) (ret := none) (by decide) rfl ?_
  intro p e s m args below meth c s₁ B hml hv
  obtain ⟨rfl, ⟨hP, hK, hok⟩, hs, hNN⟩ := hv
  have hini : meth.name = "<init>" := (name_of_methodNamed B.named B.method).1
  have X : ml_X p s m c meth _ D cA cX10_init 1 RX10 none := ⟨B.exec, B.bytes, hml, findClass_of_methodNamed B.named, fun w hw => atoms_spec (ws := Cond.code yX10_init cX10_init 1 none :: ml_T) B.pre w (List.mem_cons_of_mem _ hw), hK, B.notSynchronized, B.returns⟩
  have h1 := (ml_lay_in hlay (by decide)).1
  have hr1 := ml_wordK hlay
  have hl := lv_entry [.ref (base + (th : Int).toNat)] (n := 1) (Nat.le_of_ble_eq_true rfl)
  rw [lg_entry_eq]
  generalize (lg_sl [.ref (base + (th : Int).toNat)] ++ List.replicate (1 - (lg_sl [.ref (base + (th : Int).toNat)]).length) Slot.unset).toArray = ls at hl ⊢
  have hl : lv_has ls 1 [(0, .ref (base + (th : Int).toNat))] := hl
  unfold f_X10_init at hw
  suffices hV : ml_V p l e rm_X10_init s m [.ref (base + (th : Int).toNat)].toArray below meth c (MQ below (ml_QC base D cA (n + 5) Q) [.ref (base + (th : Int).toNat)].toArray s 5 2128 (ml_A base)) base D cA 0 0 0 (n + 0) σ (F0 m 0 ls []) from hV s.heap [] hP va_S.rf hok ml_RO0
  refine ml_aload_n (pc := 0) X hl 0 rfl rfl dX10_init_0 ?_
  refine ml_objInit (pc := 1) X ⟨tw_2_103, tw_1_24, tw_1_25⟩ hl ⟨by decide, by decide⟩ (Nat.le_of_ble_eq_true rfl) dX10_init_1 ?_
  refine ml_aload_n (pc := 4) X hl 0 rfl rfl dX10_init_4 ?_
  refine ml_bipush (pc := 5) X dX10_init_5 (by decide) ?_
  obtain ⟨z1, hw⟩ := hw
  refine ml_newA (n0 := n) (kc := 0) (ks := 0) (pc := 7) (k := (th + 1)) X hs .byte .byte 2 100 tw_1_85 rfl rfl (fun _ _ h => h) (100, .inl (fun _ => 0)) (fun _ => rfl) (by omega) (by omega) hr1.2.2.1 (fun f hf => by show _ = _; unfold ml_cell; simp only [hf]; rfl) z1 (by decide) (by decide) ⟨by decide, by decide⟩ dX10_init_7 ?_
  refine ml_putF (pc := 9) (x := (th + 1)) (k := th) X hini in_X10 rfl (by decide) tk_X10 nmX10 0 (by decide) rfl rfl tw_2_106 ⟨by omega, by omega, hlay⟩ dX10_init_9 (ml_fvA (by omega)) (show (0 : Int) ≤ (th + 1) by omega) rfl rfl (Or.inl (by omega)) (fun σ2 g2 => ?_)
  have hw := hw σ2 g2
  refine ml_aload_n (pc := 12) X hl 0 rfl rfl dX10_init_12 ?_
  refine ml_iconst (pc := 13) X dX10_init_13 ?_
  refine ml_putg (pc := 14) (x := 0) (k := th) X in_X10 rfl (by decide) tk_X10 nmX10 1 (by decide) rfl tw_2_110 ⟨by omega, by omega, hlay⟩ dX10_init_14 rfl ⟨by decide, by decide⟩ rfl rfl (Or.inl (by omega)) (fun σ3 g3 => ?_)
  have hw := hw σ3 g3
  refine ml_aload_n (pc := 17) X hl 0 rfl rfl dX10_init_17 ?_
  refine ml_iconst (pc := 18) X dX10_init_18 ?_
  refine ml_putg (pc := 19) (x := 0) (k := th) X in_X10 rfl (by decide) tk_X10 nmX10 2 (by decide) rfl tw_2_114 ⟨by omega, by omega, hlay⟩ dX10_init_19 rfl ⟨by decide, by decide⟩ (ml_narz ⟨by decide, by decide⟩) (ml_fitz ⟨by decide, by decide⟩) (Or.inl (by omega)) (fun σ4 g4 => ?_)
  have hw := hw σ4 g4
  refine ml_aload_n (pc := 22) X hl 0 rfl rfl dX10_init_22 ?_
  refine ml_iconst (pc := 23) X dX10_init_23 ?_
  refine ml_putg (pc := 24) (x := 1) (k := th) X in_X10 rfl (by decide) tk_X10 nmX10 3 (by decide) rfl tw_2_116 ⟨by omega, by omega, hlay⟩ dX10_init_24 rfl ⟨by decide, by decide⟩ rfl rfl (Or.inl (by omega)) (fun σ5 g5 => ?_)
  have hw := hw σ5 g5
  refine ml_aload_n (pc := 27) X hl 0 rfl rfl dX10_init_27 ?_
  obtain ⟨z6, hw⟩ := hw
  refine ml_newO (n0 := n) (kc := 1) (ks := 100) (pc := 28) (k := (th + 2)) X hs ⟨tw_2_104, tw_1_122, tw_1_7⟩ in_X9 rfl (by decide) tk_X9 df_X9 (Or.inr (by omega)) (by omega) hr1.2.2.2.1 z6 ⟨by decide, by decide⟩ dX10_init_28 ?_
  refine ml_dup (pc := 31) X dX10_init_31 rfl ?_
  refine ml_callC (n0 := n) (kc := 2) (ks := 108) (pc := 32) (k := (th + 2)) (mc := 2) (ms := 20) X hs hNN (c_X9_init l base D cA (n + 2) (th + 2) (by omega) hr1.2.2.2.1 σ5 _ hw) ⟨⟨(List.mem_of_getElem? (i := 13) rfl), tw_1_124, tw_1_7, tw_1_125⟩, rfl, by decide +kernel⟩ ⟨rfl, rfl⟩ ⟨by decide, by decide⟩ (by omega) hl (Nat.le_of_ble_eq_true rfl) ⟨by decide, by decide⟩ dX10_init_32 (fun σ7 hw => ?_)
  refine ml_putF (pc := 35) (x := (th + 2)) (k := th) X hini in_X10 rfl (by decide) tk_X10 nmX10 4 (by decide) rfl rfl tw_2_119 ⟨by omega, by omega, hlay⟩ dX10_init_35 (ml_fvO (by omega)) (show (0 : Int) ≤ (th + 2) by omega) rfl rfl (Or.inl (by omega)) (fun σ8 g8 => ?_)
  have hw := hw σ8 g8
  refine ml_aload_n (pc := 38) X hl 0 rfl rfl dX10_init_38 ?_
  refine ml_sipush (pc := 39) X dX10_init_39 (by decide) ?_
  obtain ⟨z9, hw⟩ := hw
  refine ml_newA (n0 := n) (kc := 4) (ks := 128) (pc := 42) (k := (th + 5)) X hs .byte .byte 2 2000 tw_1_85 rfl rfl (fun _ _ h => h) (2000, .inl (fun _ => 0)) (fun _ => rfl) (by omega) (by omega) hr1.2.2.2.2 (fun f hf => by show _ = _; unfold ml_cell; simp only [hf]; rfl) z9 (by decide) (by decide) ⟨by decide, by decide⟩ dX10_init_42 ?_
  refine ml_putF (pc := 44) (x := (th + 5)) (k := th) X hini in_X10 rfl (by decide) tk_X10 nmX10 5 (by decide) rfl rfl tw_2_123 ⟨by omega, by omega, hlay⟩ dX10_init_44 (ml_fvA (by omega)) (show (0 : Int) ≤ (th + 5) by omega) rfl rfl (Or.inl (by omega)) (fun σ10 g10 => ?_)
  have hw := hw σ10 g10
  refine ml_aload_n (pc := 47) X hl 0 rfl rfl dX10_init_47 ?_
  refine ml_iconst (pc := 48) X dX10_init_48 ?_
  refine ml_putg (pc := 49) (x := 0) (k := th) X in_X10 rfl (by decide) tk_X10 nmX10 6 (by decide) rfl tw_2_125 ⟨by omega, by omega, hlay⟩ dX10_init_49 rfl ⟨by decide, by decide⟩ rfl rfl (Or.inl (by omega)) (fun σ11 g11 => ?_)
  have hw := hw σ11 g11
  refine ml_aload_n (pc := 52) X hl 0 rfl rfl dX10_init_52 ?_
  refine ml_iconst (pc := 53) X dX10_init_53 ?_
  refine ml_putg (pc := 54) (x := 0) (k := th) X in_X10 rfl (by decide) tk_X10 nmX10 7 (by decide) rfl tw_2_127 ⟨by omega, by omega, hlay⟩ dX10_init_54 rfl ⟨by decide, by decide⟩ (ml_narz ⟨by decide, by decide⟩) (ml_fitz ⟨by decide, by decide⟩) (Or.inl (by omega)) (fun σ12 g12 => ?_)
  have hw := hw σ12 g12
  exact ml_vretC (pc := 57) X hw dX10_init_57
theorem dX11_init_0 : decode cX11_init 0 = .ok (.aload_n 0, 1) := by decide +kernel
theorem dX11_init_1 : decode cX11_init 1 = .ok (.invokespecial 1, 3) := by decide +kernel
theorem dX11_init_4 : decode cX11_init 4 = .ok (.aload_n 0, 1) := by decide +kernel
theorem dX11_init_5 : decode cX11_init 5 = .ok (.new 7, 3) := by decide +kernel
theorem dX11_init_8 : decode cX11_init 8 = .ok (.dup, 1) := by decide +kernel
theorem dX11_init_9 : decode cX11_init 9 = .ok (.invokespecial 9, 3) := by decide +kernel
theorem dX11_init_12 : decode cX11_init 12 = .ok (.putfield 10, 3) := by decide +kernel
theorem dX11_init_15 : decode cX11_init 15 = .ok (.aload_n 0, 1) := by decide +kernel
theorem dX11_init_16 : decode cX11_init 16 = .ok (.new 16, 3) := by decide +kernel
theorem dX11_init_19 : decode cX11_init 19 = .ok (.dup, 1) := by decide +kernel
theorem dX11_init_20 : decode cX11_init 20 = .ok (.invokespecial 18, 3) := by decide +kernel
theorem dX11_init_23 : decode cX11_init 23 = .ok (.putfield 19, 3) := by decide +kernel
theorem dX11_init_26 : decode cX11_init 26 = .ok (.aload_n 0, 1) := by decide +kernel
theorem dX11_init_27 : decode cX11_init 27 = .ok (.new 23, 3) := by decide +kernel
theorem dX11_init_30 : decode cX11_init 30 = .ok (.dup, 1) := by decide +kernel
theorem dX11_init_31 : decode cX11_init 31 = .ok (.invokespecial 25, 3) := by decide +kernel
theorem dX11_init_34 : decode cX11_init 34 = .ok (.putfield 26, 3) := by decide +kernel
theorem dX11_init_37 : decode cX11_init 37 = .ok (.aload_n 0, 1) := by decide +kernel
theorem dX11_init_38 : decode cX11_init 38 = .ok (.new 30, 3) := by decide +kernel
theorem dX11_init_41 : decode cX11_init 41 = .ok (.dup, 1) := by decide +kernel
theorem dX11_init_42 : decode cX11_init 42 = .ok (.invokespecial 32, 3) := by decide +kernel
theorem dX11_init_45 : decode cX11_init 45 = .ok (.putfield 33, 3) := by decide +kernel
theorem dX11_init_48 : decode cX11_init 48 = .ok (.aload_n 0, 1) := by decide +kernel
theorem dX11_init_49 : decode cX11_init 49 = .ok (.new 37, 3) := by decide +kernel
theorem dX11_init_52 : decode cX11_init 52 = .ok (.dup, 1) := by decide +kernel
theorem dX11_init_53 : decode cX11_init 53 = .ok (.invokespecial 39, 3) := by decide +kernel
theorem dX11_init_56 : decode cX11_init 56 = .ok (.putfield 40, 3) := by decide +kernel
theorem dX11_init_59 : decode cX11_init 59 = .ok (.aload_n 0, 1) := by decide +kernel
theorem dX11_init_60 : decode cX11_init 60 = .ok (.new 44, 3) := by decide +kernel
theorem dX11_init_63 : decode cX11_init 63 = .ok (.dup, 1) := by decide +kernel
theorem dX11_init_64 : decode cX11_init 64 = .ok (.invokespecial 46, 3) := by decide +kernel
theorem dX11_init_67 : decode cX11_init 67 = .ok (.putfield 47, 3) := by decide +kernel
theorem dX11_init_70 : decode cX11_init 70 = .ok (.aload_n 0, 1) := by decide +kernel
theorem dX11_init_71 : decode cX11_init 71 = .ok (.new 51, 3) := by decide +kernel
theorem dX11_init_74 : decode cX11_init 74 = .ok (.dup, 1) := by decide +kernel
theorem dX11_init_75 : decode cX11_init 75 = .ok (.invokespecial 53, 3) := by decide +kernel
theorem dX11_init_78 : decode cX11_init 78 = .ok (.putfield 54, 3) := by decide +kernel
theorem dX11_init_81 : decode cX11_init 81 = .ok (.aload_n 0, 1) := by decide +kernel
theorem dX11_init_82 : decode cX11_init 82 = .ok (.new 58, 3) := by decide +kernel
theorem dX11_init_85 : decode cX11_init 85 = .ok (.dup, 1) := by decide +kernel
theorem dX11_init_86 : decode cX11_init 86 = .ok (.invokespecial 60, 3) := by decide +kernel
theorem dX11_init_89 : decode cX11_init 89 = .ok (.putfield 61, 3) := by decide +kernel
theorem dX11_init_92 : decode cX11_init 92 = .ok (.aload_n 0, 1) := by decide +kernel
theorem dX11_init_93 : decode cX11_init 93 = .ok (.bipush 16, 2) := by decide +kernel
theorem dX11_init_95 : decode cX11_init 95 = .ok (.anewarray 65, 3) := by decide +kernel
theorem dX11_init_98 : decode cX11_init 98 = .ok (.putfield 67, 3) := by decide +kernel
theorem dX11_init_101 : decode cX11_init 101 = .ok (.aload_n 0, 1) := by decide +kernel
theorem dX11_init_102 : decode cX11_init 102 = .ok (.bipush 100, 2) := by decide +kernel
theorem dX11_init_104 : decode cX11_init 104 = .ok (.newarray .byte, 2) := by decide +kernel
theorem dX11_init_106 : decode cX11_init 106 = .ok (.putfield 71, 3) := by decide +kernel
theorem dX11_init_109 : decode cX11_init 109 = .ok (.aload_n 0, 1) := by decide +kernel
theorem dX11_init_110 : decode cX11_init 110 = .ok (.new 75, 3) := by decide +kernel
theorem dX11_init_113 : decode cX11_init 113 = .ok (.dup, 1) := by decide +kernel
theorem dX11_init_114 : decode cX11_init 114 = .ok (.invokespecial 77, 3) := by decide +kernel
theorem dX11_init_117 : decode cX11_init 117 = .ok (.putfield 78, 3) := by decide +kernel
theorem dX11_init_120 : decode cX11_init 120 = .ok (.aload_n 0, 1) := by decide +kernel
theorem dX11_init_121 : decode cX11_init 121 = .ok (.iconst 4, 1) := by decide +kernel
theorem dX11_init_122 : decode cX11_init 122 = .ok (.putfield 82, 3) := by decide +kernel
theorem dX11_init_125 : decode cX11_init 125 = .ok (.aload_n 0, 1) := by decide +kernel
theorem dX11_init_126 : decode cX11_init 126 = .ok (.iconst 0, 1) := by decide +kernel
theorem dX11_init_127 : decode cX11_init 127 = .ok (.putfield 86, 3) := by decide +kernel
theorem dX11_init_130 : decode cX11_init 130 = .ok (.iconst 0, 1) := by decide +kernel
theorem dX11_init_131 : decode cX11_init 131 = .ok (.istore_n 1, 1) := by decide +kernel
theorem dX11_init_132 : decode cX11_init 132 = .ok (.iload_n 1, 1) := by decide +kernel
theorem dX11_init_133 : decode cX11_init 133 = .ok (.bipush 16, 2) := by decide +kernel
theorem dX11_init_135 : decode cX11_init 135 = .ok (.if_icmp .ge 22, 3) := by decide +kernel
theorem dX11_init_138 : decode cX11_init 138 = .ok (.aload_n 0, 1) := by decide +kernel
theorem dX11_init_139 : decode cX11_init 139 = .ok (.getfield 67, 3) := by decide +kernel
theorem dX11_init_142 : decode cX11_init 142 = .ok (.iload_n 1, 1) := by decide +kernel
theorem dX11_init_143 : decode cX11_init 143 = .ok (.new 65, 3) := by decide +kernel
theorem dX11_init_146 : decode cX11_init 146 = .ok (.dup, 1) := by decide +kernel
theorem dX11_init_147 : decode cX11_init 147 = .ok (.invokespecial 89, 3) := by decide +kernel
theorem dX11_init_150 : decode cX11_init 150 = .ok (.aastore, 1) := by decide +kernel
theorem dX11_init_151 : decode cX11_init 151 = .ok (.iinc 1 1, 3) := by decide +kernel
theorem dX11_init_154 : decode cX11_init 154 = .ok (.goto (-22), 3) := by decide +kernel
theorem dX11_init_157 : decode cX11_init 157 = .ok (.aload_n 0, 1) := by decide +kernel
theorem dX11_init_158 : decode cX11_init 158 = .ok (.getfield 19, 3) := by decide +kernel
theorem dX11_init_161 : decode cX11_init 161 = .ok (.aload_n 0, 1) := by decide +kernel
theorem dX11_init_162 : decode cX11_init 162 = .ok (.getfield 82, 3) := by decide +kernel
theorem dX11_init_165 : decode cX11_init 165 = .ok (.invokevirtual 90, 3) := by decide +kernel
theorem dX11_init_168 : decode cX11_init 168 = .ok (.return_, 1) := by decide +kernel
def f_X11_init (σ : ml_St) (Q : ml_St → Prop) : Prop :=
(∀ j : Int, σ 2 j = 0) ∧
f_X8_init σ (fun σ2 =>
∀ σ3, σ3 = ml_up σ2 1 0 2 →
(∀ j : Int, σ3 4 j = 0) ∧
f_X0_init σ3 (fun σ5 =>
∀ σ6, σ6 = ml_up σ5 1 1 4 →
(∀ j : Int, σ6 6 j = 0) ∧
f_X2_init σ6 (fun σ8 =>
∀ σ9, σ9 = ml_up σ8 1 2 6 →
(∀ j : Int, σ9 8 j = 0) ∧
f_X4_init σ9 (fun σ11 =>
∀ σ12, σ12 = ml_up σ11 1 3 8 →
(∀ j : Int, σ12 46 j = 0) ∧
f_X6_init σ12 (fun σ14 =>
∀ σ15, σ15 = ml_up σ14 1 4 46 →
(∀ j : Int, σ15 55 j = 0) ∧
f_X7_init σ15 (fun σ17 =>
∀ σ18, σ18 = ml_up σ17 1 5 55 →
(∀ j : Int, σ18 70 j = 0) ∧
f_X1_init σ18 (fun σ20 =>
∀ σ21, σ21 = ml_up σ20 1 6 70 →
(∀ j : Int, σ21 76 j = 0) ∧
f_X5_init σ21 (fun σ23 =>
∀ σ24, σ24 = ml_up σ23 1 7 76 →
(∀ j : Int, σ24 114 j = 0) ∧
∀ σ26, σ26 = ml_up σ24 1 8 114 →
(∀ j : Int, σ26 115 j = 0) ∧
∀ σ28, σ28 = ml_up σ26 1 9 115 →
(∀ j : Int, σ28 116 j = 0) ∧
f_X9_init σ28 116 (fun σ30 =>
∀ σ31, σ31 = ml_up σ30 1 10 116 →
∀ σ32, σ32 = ml_up σ31 1 11 4 →
∀ σ33, σ33 = ml_up σ32 1 12 0 →
σ33 1 8 = 114 ∧
(∀ j : Int, σ33 119 j = 0) ∧
f_X10_init σ33 119 (fun σ37 =>
∀ σ38, σ38 = ml_up σ37 114 0 119 →
σ38 1 8 = 114 ∧
(∀ j : Int, σ38 125 j = 0) ∧
f_X10_init σ38 125 (fun σ42 =>
∀ σ43, σ43 = ml_up σ42 114 1 125 →
σ43 1 8 = 114 ∧
(∀ j : Int, σ43 131 j = 0) ∧
f_X10_init σ43 131 (fun σ47 =>
∀ σ48, σ48 = ml_up σ47 114 2 131 →
σ48 1 8 = 114 ∧
(∀ j : Int, σ48 137 j = 0) ∧
f_X10_init σ48 137 (fun σ52 =>
∀ σ53, σ53 = ml_up σ52 114 3 137 →
σ53 1 8 = 114 ∧
(∀ j : Int, σ53 143 j = 0) ∧
f_X10_init σ53 143 (fun σ57 =>
∀ σ58, σ58 = ml_up σ57 114 4 143 →
σ58 1 8 = 114 ∧
(∀ j : Int, σ58 149 j = 0) ∧
f_X10_init σ58 149 (fun σ62 =>
∀ σ63, σ63 = ml_up σ62 114 5 149 →
σ63 1 8 = 114 ∧
(∀ j : Int, σ63 155 j = 0) ∧
f_X10_init σ63 155 (fun σ67 =>
∀ σ68, σ68 = ml_up σ67 114 6 155 →
σ68 1 8 = 114 ∧
(∀ j : Int, σ68 161 j = 0) ∧
f_X10_init σ68 161 (fun σ72 =>
∀ σ73, σ73 = ml_up σ72 114 7 161 →
σ73 1 8 = 114 ∧
(∀ j : Int, σ73 167 j = 0) ∧
f_X10_init σ73 167 (fun σ77 =>
∀ σ78, σ78 = ml_up σ77 114 8 167 →
σ78 1 8 = 114 ∧
(∀ j : Int, σ78 173 j = 0) ∧
f_X10_init σ78 173 (fun σ82 =>
∀ σ83, σ83 = ml_up σ82 114 9 173 →
σ83 1 8 = 114 ∧
(∀ j : Int, σ83 179 j = 0) ∧
f_X10_init σ83 179 (fun σ87 =>
∀ σ88, σ88 = ml_up σ87 114 10 179 →
σ88 1 8 = 114 ∧
(∀ j : Int, σ88 185 j = 0) ∧
f_X10_init σ88 185 (fun σ92 =>
∀ σ93, σ93 = ml_up σ92 114 11 185 →
σ93 1 8 = 114 ∧
(∀ j : Int, σ93 191 j = 0) ∧
f_X10_init σ93 191 (fun σ97 =>
∀ σ98, σ98 = ml_up σ97 114 12 191 →
σ98 1 8 = 114 ∧
(∀ j : Int, σ98 197 j = 0) ∧
f_X10_init σ98 197 (fun σ102 =>
∀ σ103, σ103 = ml_up σ102 114 13 197 →
σ103 1 8 = 114 ∧
(∀ j : Int, σ103 203 j = 0) ∧
f_X10_init σ103 203 (fun σ107 =>
∀ σ108, σ108 = ml_up σ107 114 14 203 →
σ108 1 8 = 114 ∧
(∀ j : Int, σ108 209 j = 0) ∧
f_X10_init σ108 209 (fun σ112 =>
∀ σ113, σ113 = ml_up σ112 114 15 209 →
σ113 1 1 = 4 ∧
∀ _ : I32 (σ113 1 11),
ml_RO 214 σ113 ∧
f_X0_goRound σ113 (σ113 1 11) (fun σ117 =>
Q σ117))))))))))))))))))))))))))
def rm_X11_init : Room := { frames := 3, cells := 213, slots := 76181, locals := 101 }
set_option maxRecDepth 100000 in
set_option maxHeartbeats 4000000 in
theorem c_X11_init (l : Launch) (base : Nat) (D : va_G) (cA : Nat → ClassId) (σ : ml_St) (Q : ml_St → Prop) (hw : f_X11_init σ Q) : Met l yX11_init (Cond.code yX11_init cX11_init 2 none :: ml_T) rm_X11_init (va_Pc [.ref (base + (1 : Int).toNat)] (ml_UC base D cA 1 σ)) (ml_QC base D cA (1 + 213) Q) 213 76181 (ml_A base) := by
  refine Met.ofW (cc := cX11_init) (maxL := 2) (ret := none) (by decide) rfl ?_
  intro p e s m args below meth c s₁ B hml hv
  obtain ⟨rfl, ⟨hP, hK, hok⟩, hs, hNN⟩ := hv
  have hini : meth.name = "<init>" := (name_of_methodNamed B.named B.method).1
  have X : ml_X p s m c meth _ D cA cX11_init 2 RX11 none := ⟨B.exec, B.bytes, hml, findClass_of_methodNamed B.named, fun w hw => atoms_spec (ws := Cond.code yX11_init cX11_init 2 none :: ml_T) B.pre w (List.mem_cons_of_mem _ hw), hK, B.notSynchronized, B.returns⟩
  have hl := lv_entry [.ref (base + (1 : Int).toNat)] (n := 2) (Nat.le_of_ble_eq_true rfl)
  rw [lg_entry_eq]
  generalize (lg_sl [.ref (base + (1 : Int).toNat)] ++ List.replicate (2 - (lg_sl [.ref (base + (1 : Int).toNat)]).length) Slot.unset).toArray = ls at hl ⊢
  have hl : lv_has ls 2 [(0, .ref (base + (1 : Int).toNat))] := hl
  unfold f_X11_init at hw
  suffices hV : ml_V p l e rm_X11_init s m [.ref (base + (1 : Int).toNat)].toArray below meth c (MQ below (ml_QC base D cA (1 + 213) Q) [.ref (base + (1 : Int).toNat)].toArray s 213 76181 (ml_A base)) base D cA 0 0 0 (1 + 0) σ (F0 m 0 ls []) from hV s.heap [] hP va_S.rf hok ml_RO0
  refine ml_aload_n (pc := 0) X hl 0 rfl rfl dX11_init_0 ?_
  refine ml_objInit (pc := 1) X ⟨tw_1_23, tw_1_24, tw_1_25⟩ hl ⟨by decide, by decide⟩ (Nat.le_of_ble_eq_true rfl) dX11_init_1 ?_
  refine ml_aload_n (pc := 4) X hl 0 rfl rfl dX11_init_4 ?_
  obtain ⟨z1, hw⟩ := hw
  refine ml_newO (n0 := 1) (kc := 0) (ks := 0) (pc := 5) (k := 2) X hs ⟨tw_1_26, tw_1_27, tw_1_2⟩ in_X8 rfl (by decide) tk_X8 df_X8 (Or.inr (by omega)) (by omega) (by decide +kernel) z1 ⟨by decide, by decide⟩ dX11_init_5 ?_
  refine ml_dup (pc := 8) X dX11_init_8 rfl ?_
  refine ml_callC (n0 := 1) (kc := 1) (ks := 2) (pc := 9) (k := 2) (mc := 1) (ms := 200) X hs hNN (c_X8_init l base D cA σ _ hw) ⟨⟨(List.mem_of_getElem? (i := 0) rfl), tw_1_29, tw_1_2, tw_1_30⟩, rfl, by decide +kernel⟩ ⟨rfl, rfl⟩ ⟨by decide, by decide⟩ (by omega) hl (Nat.le_of_ble_eq_true rfl) ⟨by decide, by decide⟩ dX11_init_9 (fun σ2 hw => ?_)
  refine ml_putF (pc := 12) (x := 2) (k := 1) X hini in_X11 rfl (by decide) tk_X11 nmX11 0 (by decide) rfl rfl tw_2_151 (ml_k1 (by decide)) dX11_init_12 (ml_fvO (by omega)) (show (0 : Int) ≤ 2 by omega) rfl rfl (Or.inl (by omega)) (fun σ3 g3 => ?_)
  have hw := hw σ3 g3
  refine ml_aload_n (pc := 15) X hl 0 rfl rfl dX11_init_15 ?_
  obtain ⟨z4, hw⟩ := hw
  refine ml_newO (n0 := 1) (kc := 2) (ks := 202) (pc := 16) (k := 4) X hs ⟨tw_1_43, tw_1_44, tw_1_3⟩ in_X0 rfl (by decide) tk_X0 df_X0 (Or.inr (by omega)) (by omega) (by decide +kernel) z4 ⟨by decide, by decide⟩ dX11_init_16 ?_
  refine ml_dup (pc := 19) X dX11_init_19 rfl ?_
  refine ml_callC (n0 := 1) (kc := 3) (ks := 204) (pc := 20) (k := 4) (mc := 1) (ms := 10) X hs hNN (c_X0_init l base D cA σ3 _ hw) ⟨⟨(List.mem_of_getElem? (i := 1) rfl), tw_1_46, tw_1_3, tw_1_47⟩, rfl, by decide +kernel⟩ ⟨rfl, rfl⟩ ⟨by decide, by decide⟩ (by omega) hl (Nat.le_of_ble_eq_true rfl) ⟨by decide, by decide⟩ dX11_init_20 (fun σ5 hw => ?_)
  refine ml_putF (pc := 23) (x := 4) (k := 1) X hini in_X11 rfl (by decide) tk_X11 nmX11 1 (by decide) rfl rfl tw_2_152 (ml_k1 (by decide)) dX11_init_23 (ml_fvO (by omega)) (show (0 : Int) ≤ 4 by omega) rfl rfl (Or.inl (by omega)) (fun σ6 g6 => ?_)
  have hw := hw σ6 g6
  refine ml_aload_n (pc := 26) X hl 0 rfl rfl dX11_init_26 ?_
  obtain ⟨z7, hw⟩ := hw
  refine ml_newO (n0 := 1) (kc := 4) (ks := 214) (pc := 27) (k := 6) X hs ⟨tw_1_57, tw_1_58, tw_1_4⟩ in_X2 rfl (by decide) tk_X2 df_X2 (Or.inr (by omega)) (by omega) (by decide +kernel) z7 ⟨by decide, by decide⟩ dX11_init_27 ?_
  refine ml_dup (pc := 30) X dX11_init_30 rfl ?_
  refine ml_callC (n0 := 1) (kc := 5) (ks := 221) (pc := 31) (k := 6) (mc := 1) (ms := 0) X hs hNN (c_X2_init l base D cA σ6 _ hw) ⟨⟨(List.mem_of_getElem? (i := 2) rfl), tw_1_60, tw_1_4, tw_1_61⟩, rfl, by decide +kernel⟩ ⟨rfl, rfl⟩ ⟨by decide, by decide⟩ (by omega) hl (Nat.le_of_ble_eq_true rfl) ⟨by decide, by decide⟩ dX11_init_31 (fun σ8 hw => ?_)
  refine ml_putF (pc := 34) (x := 6) (k := 1) X hini in_X11 rfl (by decide) tk_X11 nmX11 2 (by decide) rfl rfl tw_2_153 (ml_k1 (by decide)) dX11_init_34 (ml_fvO (by omega)) (show (0 : Int) ≤ 6 by omega) rfl rfl (Or.inl (by omega)) (fun σ9 g9 => ?_)
  have hw := hw σ9 g9
  refine ml_aload_n (pc := 37) X hl 0 rfl rfl dX11_init_37 ?_
  obtain ⟨z10, hw⟩ := hw
  refine ml_newO (n0 := 1) (kc := 6) (ks := 221) (pc := 38) (k := 8) X hs ⟨tw_1_86, tw_1_87, tw_1_5⟩ in_X4 rfl (by decide) tk_X4 df_X4 (Or.inr (by omega)) (by omega) (by decide +kernel) z10 ⟨by decide, by decide⟩ dX11_init_38 ?_
  refine ml_dup (pc := 41) X dX11_init_41 rfl ?_
  refine ml_callCI (n0 := 1) (kc := 7) (ks := 228) (pc := 42) (k := 8) (mc := 37) (ms := 328) X hs hNN (c_X4_init l base D cA σ9 _ hw) ⟨⟨tw_1_88, tw_1_89, tw_1_5, tw_1_90⟩, rfl, by decide +kernel⟩ ⟨rfl, rfl⟩ ⟨by decide, by decide⟩ (by omega) hl (Nat.le_of_ble_eq_true rfl) ⟨by decide, by decide⟩ dX11_init_42 (fun σ11 hw => ?_)
  refine ml_putF (pc := 45) (x := 8) (k := 1) X hini in_X11 rfl (by decide) tk_X11 nmX11 3 (by decide) rfl rfl tw_2_154 (ml_k1 (by decide)) dX11_init_45 (ml_fvO (by omega)) (show (0 : Int) ≤ 8 by omega) rfl rfl (Or.inl (by omega)) (fun σ12 g12 => ?_)
  have hw := hw σ12 g12
  refine ml_aload_n (pc := 48) X hl 0 rfl rfl dX11_init_48 ?_
  obtain ⟨z13, hw⟩ := hw
  refine ml_newO (n0 := 1) (kc := 44) (ks := 556) (pc := 49) (k := 46) X hs ⟨tw_1_188, tw_1_189, tw_1_8⟩ in_X6 rfl (by decide) tk_X6 df_X6 (Or.inr (by omega)) (by omega) (by decide +kernel) z13 ⟨by decide, by decide⟩ dX11_init_49 ?_
  refine ml_dup (pc := 52) X dX11_init_52 rfl ?_
  refine ml_callC (n0 := 1) (kc := 45) (ks := 566) (pc := 53) (k := 46) (mc := 8) (ms := 186) X hs hNN (c_X6_init l base D cA σ12 _ hw) ⟨⟨(List.mem_of_getElem? (i := 5) rfl), tw_1_191, tw_1_8, tw_1_192⟩, rfl, by decide +kernel⟩ ⟨rfl, rfl⟩ ⟨by decide, by decide⟩ (by omega) hl (Nat.le_of_ble_eq_true rfl) ⟨by decide, by decide⟩ dX11_init_53 (fun σ14 hw => ?_)
  refine ml_putF (pc := 56) (x := 46) (k := 1) X hini in_X11 rfl (by decide) tk_X11 nmX11 4 (by decide) rfl rfl tw_2_155 (ml_k1 (by decide)) dX11_init_56 (ml_fvO (by omega)) (show (0 : Int) ≤ 46 by omega) rfl rfl (Or.inl (by omega)) (fun σ15 g15 => ?_)
  have hw := hw σ15 g15
  refine ml_aload_n (pc := 59) X hl 0 rfl rfl dX11_init_59 ?_
  obtain ⟨z16, hw⟩ := hw
  refine ml_newO (n0 := 1) (kc := 53) (ks := 752) (pc := 60) (k := 55) X hs ⟨tw_1_232, tw_1_233, tw_1_9⟩ in_X7 rfl (by decide) tk_X7 df_X7 (Or.inr (by omega)) (by omega) (by decide +kernel) z16 ⟨by decide, by decide⟩ dX11_init_60 ?_
  refine ml_dup (pc := 63) X dX11_init_63 rfl ?_
  refine ml_callC (n0 := 1) (kc := 54) (ks := 766) (pc := 64) (k := 55) (mc := 14) (ms := 28441) X hs hNN (c_X7_init l base D cA σ15 _ hw) ⟨⟨(List.mem_of_getElem? (i := 7) rfl), tw_1_235, tw_1_9, tw_1_236⟩, rfl, by decide +kernel⟩ ⟨rfl, rfl⟩ ⟨by decide, by decide⟩ (by omega) hl (Nat.le_of_ble_eq_true rfl) ⟨by decide, by decide⟩ dX11_init_64 (fun σ17 hw => ?_)
  refine ml_putF (pc := 67) (x := 55) (k := 1) X hini in_X11 rfl (by decide) tk_X11 nmX11 5 (by decide) rfl rfl tw_2_156 (ml_k1 (by decide)) dX11_init_67 (ml_fvO (by omega)) (show (0 : Int) ≤ 55 by omega) rfl rfl (Or.inl (by omega)) (fun σ18 g18 => ?_)
  have hw := hw σ18 g18
  refine ml_aload_n (pc := 70) X hl 0 rfl rfl dX11_init_70 ?_
  obtain ⟨z19, hw⟩ := hw
  refine ml_newO (n0 := 1) (kc := 68) (ks := 29207) (pc := 71) (k := 70) X hs ⟨tw_2_51, tw_2_52, tw_1_10⟩ in_X1 rfl (by decide) tk_X1 df_X1 (Or.inr (by omega)) (by omega) (by decide +kernel) z19 ⟨by decide, by decide⟩ dX11_init_71 ?_
  refine ml_dup (pc := 74) X dX11_init_74 rfl ?_
  refine ml_callC (n0 := 1) (kc := 69) (ks := 29214) (pc := 75) (k := 70) (mc := 5) (ms := 12298) X hs hNN (c_X1_init l base D cA σ18 _ hw) ⟨⟨(List.mem_of_getElem? (i := 9) rfl), tw_2_54, tw_1_10, tw_2_55⟩, rfl, by decide +kernel⟩ ⟨rfl, rfl⟩ ⟨by decide, by decide⟩ (by omega) hl (Nat.le_of_ble_eq_true rfl) ⟨by decide, by decide⟩ dX11_init_75 (fun σ20 hw => ?_)
  refine ml_putF (pc := 78) (x := 70) (k := 1) X hini in_X11 rfl (by decide) tk_X11 nmX11 6 (by decide) rfl rfl tw_2_157 (ml_k1 (by decide)) dX11_init_78 (ml_fvO (by omega)) (show (0 : Int) ≤ 70 by omega) rfl rfl (Or.inl (by omega)) (fun σ21 g21 => ?_)
  have hw := hw σ21 g21
  refine ml_aload_n (pc := 81) X hl 0 rfl rfl dX11_init_81 ?_
  obtain ⟨z22, hw⟩ := hw
  refine ml_newO (n0 := 1) (kc := 74) (ks := 41512) (pc := 82) (k := 76) X hs ⟨tw_2_80, tw_2_81, tw_1_11⟩ in_X5 rfl (by decide) tk_X5 df_X5 (Or.inr (by omega)) (by omega) (by decide +kernel) z22 ⟨by decide, by decide⟩ dX11_init_82 ?_
  refine ml_dup (pc := 85) X dX11_init_85 rfl ?_
  refine ml_callCI (n0 := 1) (kc := 75) (ks := 41514) (pc := 86) (k := 76) (mc := 37) (ms := 347) X hs hNN (c_X5_init l base D cA σ21 _ hw) ⟨⟨tw_2_82, tw_2_83, tw_1_11, tw_2_84⟩, rfl, by decide +kernel⟩ ⟨rfl, rfl⟩ ⟨by decide, by decide⟩ (by omega) hl (Nat.le_of_ble_eq_true rfl) ⟨by decide, by decide⟩ dX11_init_86 (fun σ23 hw => ?_)
  refine ml_putF (pc := 89) (x := 76) (k := 1) X hini in_X11 rfl (by decide) tk_X11 nmX11 7 (by decide) rfl rfl tw_2_158 (ml_k1 (by decide)) dX11_init_89 (ml_fvO (by omega)) (show (0 : Int) ≤ 76 by omega) rfl rfl (Or.inl (by omega)) (fun σ24 g24 => ?_)
  have hw := hw σ24 g24
  refine ml_aload_n (pc := 92) X hl 0 rfl rfl dX11_init_92 ?_
  refine ml_bipush (pc := 93) X dX11_init_93 (by decide) ?_
  obtain ⟨z25, hw⟩ := hw
  refine ml_newR (n0 := 1) (kc := 112) (ks := 41861) (pc := 95) (k := 114) X hs 6 16 tw_2_95 hNN.2.2 rfl (by omega) (by omega) (by decide +kernel) (fun f hf => by show _ = _; unfold ml_cell; simp only [hf]; rfl) z25 (by decide) ⟨by decide, by decide⟩ dX11_init_95 ?_
  refine ml_putF (pc := 98) (x := 114) (k := 1) X hini in_X11 rfl (by decide) tk_X11 nmX11 8 (by decide) rfl rfl tw_2_159 (ml_k1 (by decide)) dX11_init_98 (ml_fvA (by omega)) (show (0 : Int) ≤ 114 by omega) rfl rfl (Or.inl (by omega)) (fun σ26 g26 => ?_)
  have hw := hw σ26 g26
  refine ml_aload_n (pc := 101) X hl 0 rfl rfl dX11_init_101 ?_
  refine ml_bipush (pc := 102) X dX11_init_102 (by decide) ?_
  obtain ⟨z27, hw⟩ := hw
  refine ml_newA (n0 := 1) (kc := 113) (ks := 41877) (pc := 104) (k := 115) X hs .byte .byte 2 100 tw_1_85 rfl rfl (fun _ _ h => h) (100, .inl (fun _ => 0)) (fun _ => rfl) (by omega) (by omega) (by decide +kernel) (fun f hf => by show _ = _; unfold ml_cell; simp only [hf]; rfl) z27 (by decide) (by decide) ⟨by decide, by decide⟩ dX11_init_104 ?_
  refine ml_putF (pc := 106) (x := 115) (k := 1) X hini in_X11 rfl (by decide) tk_X11 nmX11 9 (by decide) rfl rfl tw_2_160 (ml_k1 (by decide)) dX11_init_106 (ml_fvA (by omega)) (show (0 : Int) ≤ 115 by omega) rfl rfl (Or.inl (by omega)) (fun σ28 g28 => ?_)
  have hw := hw σ28 g28
  refine ml_aload_n (pc := 109) X hl 0 rfl rfl dX11_init_109 ?_
  obtain ⟨z29, hw⟩ := hw
  refine ml_newO (n0 := 1) (kc := 114) (ks := 41977) (pc := 110) (k := 116) X hs ⟨tw_2_97, tw_1_122, tw_1_7⟩ in_X9 rfl (by decide) tk_X9 df_X9 (Or.inr (by omega)) (by omega) (by decide +kernel) z29 ⟨by decide, by decide⟩ dX11_init_110 ?_
  refine ml_dup (pc := 113) X dX11_init_113 rfl ?_
  refine ml_callC (n0 := 1) (kc := 115) (ks := 41985) (pc := 114) (k := 116) (mc := 2) (ms := 20) X hs hNN (c_X9_init l base D cA (1 + 115) 116 (by omega) (by decide +kernel) σ28 _ hw) ⟨⟨(List.mem_of_getElem? (i := 11) rfl), tw_1_124, tw_1_7, tw_1_125⟩, rfl, by decide +kernel⟩ ⟨rfl, rfl⟩ ⟨by decide, by decide⟩ (by omega) hl (Nat.le_of_ble_eq_true rfl) ⟨by decide, by decide⟩ dX11_init_114 (fun σ30 hw => ?_)
  refine ml_putF (pc := 117) (x := 116) (k := 1) X hini in_X11 rfl (by decide) tk_X11 nmX11 10 (by decide) rfl rfl tw_2_161 (ml_k1 (by decide)) dX11_init_117 (ml_fvO (by omega)) (show (0 : Int) ≤ 116 by omega) rfl rfl (Or.inl (by omega)) (fun σ31 g31 => ?_)
  have hw := hw σ31 g31
  refine ml_aload_n (pc := 120) X hl 0 rfl rfl dX11_init_120 ?_
  refine ml_iconst (pc := 121) X dX11_init_121 ?_
  refine ml_putg (pc := 122) (x := 4) (k := 1) X in_X11 rfl (by decide) tk_X11 nmX11 11 (by decide) rfl tw_2_162 (ml_k1 (by decide)) dX11_init_122 rfl ⟨by decide, by decide⟩ rfl rfl (Or.inl (by omega)) (fun σ32 g32 => ?_)
  have hw := hw σ32 g32
  refine ml_aload_n (pc := 125) X hl 0 rfl rfl dX11_init_125 ?_
  refine ml_iconst (pc := 126) X dX11_init_126 ?_
  refine ml_putg (pc := 127) (x := 0) (k := 1) X in_X11 rfl (by decide) tk_X11 nmX11 12 (by decide) rfl tw_2_163 (ml_k1 (by decide)) dX11_init_127 rfl ⟨by decide, by decide⟩ rfl rfl (Or.inl (by omega)) (fun σ33 g33 => ?_)
  have hw := hw σ33 g33
  refine ml_iconst (pc := 130) X dX11_init_130 ?_
  refine ml_istore_n (pc := 131) X rfl hl (by decide) (lst' := [(1, .int (Int32.ofInt 0)), (0, .ref (base + (1 : Int).toNat))]) rfl dX11_init_131 (fun ls hl => ?_)
  refine ml_iload_n (pc := 132) X hl 0 rfl rfl dX11_init_132 ?_
  refine ml_bipush (pc := 133) X dX11_init_133 (by decide) ?_
  refine ml_icmp_ge (pc := 135) (tgt := 157) X ⟨by decide, by decide⟩ ⟨by decide, by decide⟩ dX11_init_135 (by decide) (fun c34 => absurd c34 (by decide)) (fun c34 => ?_)
  refine ml_aload_n (pc := 138) X hl 1 rfl rfl dX11_init_138 ?_
  obtain ⟨e35, hw⟩ := hw
  refine ml_getg (pc := 139) (k := 1) X in_X11 rfl (by decide) 8 (by decide) tw_2_159 (ml_k1 (by decide)) dX11_init_139 (v := .ref (base + (114 : Int).toNat)) (fun _ => by show (if σ33 1 8 = 0 then Value.null else .ref (base + (σ33 1 8).toNat)) = _; rw [e35]; exact if_neg (by omega)) (fun _ => ?_)
  refine ml_iload_n (pc := 142) X hl 0 rfl rfl dX11_init_142 ?_
  obtain ⟨z36, hw⟩ := hw
  refine ml_newO (n0 := 1) (kc := 117) (ks := 42005) (pc := 143) (k := 119) X hs ⟨tw_2_95, tw_2_99, tw_1_12⟩ in_X10 rfl (by decide) tk_X10 df_X10 (Or.inr (by omega)) (by omega) (by decide +kernel) z36 ⟨by decide, by decide⟩ dX11_init_143 ?_
  refine ml_dup (pc := 146) X dX11_init_146 rfl ?_
  refine ml_callC (n0 := 1) (kc := 118) (ks := 42013) (pc := 147) (k := 119) (mc := 5) (ms := 2128) X hs hNN (c_X10_init l base D cA (1 + 118) 119 (by omega) (by decide +kernel) σ33 _ hw) ⟨⟨(List.mem_of_getElem? (i := 12) rfl), tw_2_101, tw_1_12, tw_2_102⟩, rfl, by decide +kernel⟩ ⟨rfl, rfl⟩ ⟨by decide, by decide⟩ (by omega) hl (Nat.le_of_ble_eq_true rfl) ⟨by decide, by decide⟩ dX11_init_147 (fun σ37 hw => ?_)
  refine ml_aast (pc := 150) (k := 114) (i := 0) (v := 119) X (ml_k114 (by decide)) (fun _ => rfl) rfl (ml_k119 (by decide)) (by decide) rfl (Or.inr (by decide +kernel)) (by decide) (by decide) dX11_init_150 (fun σ38 g38 => ?_)
  have hw := hw σ38 g38
  refine ml_iinc (pc := 151) X (x := 0) (y := 1) (by decide) hl 0 rfl (by decide) (lst' := [(1, .int (Int32.ofInt 1)), (0, .ref (base + (1 : Int).toNat))]) rfl dX11_init_151 (fun ls hl => ?_)
  refine ml_goto (pc := 154) (tgt := 132) X dX11_init_154 (by decide) ?_
  refine ml_iload_n (pc := 132) X hl 0 rfl rfl dX11_init_132 ?_
  refine ml_bipush (pc := 133) X dX11_init_133 (by decide) ?_
  refine ml_icmp_ge (pc := 135) (tgt := 157) X ⟨by decide, by decide⟩ ⟨by decide, by decide⟩ dX11_init_135 (by decide) (fun c39 => absurd c39 (by decide)) (fun c39 => ?_)
  refine ml_aload_n (pc := 138) X hl 1 rfl rfl dX11_init_138 ?_
  obtain ⟨e40, hw⟩ := hw
  refine ml_getg (pc := 139) (k := 1) X in_X11 rfl (by decide) 8 (by decide) tw_2_159 (ml_k1 (by decide)) dX11_init_139 (v := .ref (base + (114 : Int).toNat)) (fun _ => by show (if σ38 1 8 = 0 then Value.null else .ref (base + (σ38 1 8).toNat)) = _; rw [e40]; exact if_neg (by omega)) (fun _ => ?_)
  refine ml_iload_n (pc := 142) X hl 0 rfl rfl dX11_init_142 ?_
  obtain ⟨z41, hw⟩ := hw
  refine ml_newO (n0 := 1) (kc := 123) (ks := 44141) (pc := 143) (k := 125) X hs ⟨tw_2_95, tw_2_99, tw_1_12⟩ in_X10 rfl (by decide) tk_X10 df_X10 (Or.inr (by omega)) (by omega) (by decide +kernel) z41 ⟨by decide, by decide⟩ dX11_init_143 ?_
  refine ml_dup (pc := 146) X dX11_init_146 rfl ?_
  refine ml_callC (n0 := 1) (kc := 124) (ks := 44149) (pc := 147) (k := 125) (mc := 5) (ms := 2128) X hs hNN (c_X10_init l base D cA (1 + 124) 125 (by omega) (by decide +kernel) σ38 _ hw) ⟨⟨(List.mem_of_getElem? (i := 12) rfl), tw_2_101, tw_1_12, tw_2_102⟩, rfl, by decide +kernel⟩ ⟨rfl, rfl⟩ ⟨by decide, by decide⟩ (by omega) hl (Nat.le_of_ble_eq_true rfl) ⟨by decide, by decide⟩ dX11_init_147 (fun σ42 hw => ?_)
  refine ml_aast (pc := 150) (k := 114) (i := 1) (v := 125) X (ml_k114 (by decide)) (fun _ => rfl) rfl (ml_k125 (by decide)) (by decide) rfl (Or.inr (by decide +kernel)) (by decide) (by decide) dX11_init_150 (fun σ43 g43 => ?_)
  have hw := hw σ43 g43
  refine ml_iinc (pc := 151) X (x := 1) (y := 2) (by decide) hl 0 rfl (by decide) (lst' := [(1, .int (Int32.ofInt 2)), (0, .ref (base + (1 : Int).toNat))]) rfl dX11_init_151 (fun ls hl => ?_)
  refine ml_goto (pc := 154) (tgt := 132) X dX11_init_154 (by decide) ?_
  refine ml_iload_n (pc := 132) X hl 0 rfl rfl dX11_init_132 ?_
  refine ml_bipush (pc := 133) X dX11_init_133 (by decide) ?_
  refine ml_icmp_ge (pc := 135) (tgt := 157) X ⟨by decide, by decide⟩ ⟨by decide, by decide⟩ dX11_init_135 (by decide) (fun c44 => absurd c44 (by decide)) (fun c44 => ?_)
  refine ml_aload_n (pc := 138) X hl 1 rfl rfl dX11_init_138 ?_
  obtain ⟨e45, hw⟩ := hw
  refine ml_getg (pc := 139) (k := 1) X in_X11 rfl (by decide) 8 (by decide) tw_2_159 (ml_k1 (by decide)) dX11_init_139 (v := .ref (base + (114 : Int).toNat)) (fun _ => by show (if σ43 1 8 = 0 then Value.null else .ref (base + (σ43 1 8).toNat)) = _; rw [e45]; exact if_neg (by omega)) (fun _ => ?_)
  refine ml_iload_n (pc := 142) X hl 0 rfl rfl dX11_init_142 ?_
  obtain ⟨z46, hw⟩ := hw
  refine ml_newO (n0 := 1) (kc := 129) (ks := 46277) (pc := 143) (k := 131) X hs ⟨tw_2_95, tw_2_99, tw_1_12⟩ in_X10 rfl (by decide) tk_X10 df_X10 (Or.inr (by omega)) (by omega) (by decide +kernel) z46 ⟨by decide, by decide⟩ dX11_init_143 ?_
  refine ml_dup (pc := 146) X dX11_init_146 rfl ?_
  refine ml_callC (n0 := 1) (kc := 130) (ks := 46285) (pc := 147) (k := 131) (mc := 5) (ms := 2128) X hs hNN (c_X10_init l base D cA (1 + 130) 131 (by omega) (by decide +kernel) σ43 _ hw) ⟨⟨(List.mem_of_getElem? (i := 12) rfl), tw_2_101, tw_1_12, tw_2_102⟩, rfl, by decide +kernel⟩ ⟨rfl, rfl⟩ ⟨by decide, by decide⟩ (by omega) hl (Nat.le_of_ble_eq_true rfl) ⟨by decide, by decide⟩ dX11_init_147 (fun σ47 hw => ?_)
  refine ml_aast (pc := 150) (k := 114) (i := 2) (v := 131) X (ml_k114 (by decide)) (fun _ => rfl) rfl (ml_k131 (by decide)) (by decide) rfl (Or.inr (by decide +kernel)) (by decide) (by decide) dX11_init_150 (fun σ48 g48 => ?_)
  have hw := hw σ48 g48
  refine ml_iinc (pc := 151) X (x := 2) (y := 3) (by decide) hl 0 rfl (by decide) (lst' := [(1, .int (Int32.ofInt 3)), (0, .ref (base + (1 : Int).toNat))]) rfl dX11_init_151 (fun ls hl => ?_)
  refine ml_goto (pc := 154) (tgt := 132) X dX11_init_154 (by decide) ?_
  refine ml_iload_n (pc := 132) X hl 0 rfl rfl dX11_init_132 ?_
  refine ml_bipush (pc := 133) X dX11_init_133 (by decide) ?_
  refine ml_icmp_ge (pc := 135) (tgt := 157) X ⟨by decide, by decide⟩ ⟨by decide, by decide⟩ dX11_init_135 (by decide) (fun c49 => absurd c49 (by decide)) (fun c49 => ?_)
  refine ml_aload_n (pc := 138) X hl 1 rfl rfl dX11_init_138 ?_
  obtain ⟨e50, hw⟩ := hw
  refine ml_getg (pc := 139) (k := 1) X in_X11 rfl (by decide) 8 (by decide) tw_2_159 (ml_k1 (by decide)) dX11_init_139 (v := .ref (base + (114 : Int).toNat)) (fun _ => by show (if σ48 1 8 = 0 then Value.null else .ref (base + (σ48 1 8).toNat)) = _; rw [e50]; exact if_neg (by omega)) (fun _ => ?_)
  refine ml_iload_n (pc := 142) X hl 0 rfl rfl dX11_init_142 ?_
  obtain ⟨z51, hw⟩ := hw
  refine ml_newO (n0 := 1) (kc := 135) (ks := 48413) (pc := 143) (k := 137) X hs ⟨tw_2_95, tw_2_99, tw_1_12⟩ in_X10 rfl (by decide) tk_X10 df_X10 (Or.inr (by omega)) (by omega) (by decide +kernel) z51 ⟨by decide, by decide⟩ dX11_init_143 ?_
  refine ml_dup (pc := 146) X dX11_init_146 rfl ?_
  refine ml_callC (n0 := 1) (kc := 136) (ks := 48421) (pc := 147) (k := 137) (mc := 5) (ms := 2128) X hs hNN (c_X10_init l base D cA (1 + 136) 137 (by omega) (by decide +kernel) σ48 _ hw) ⟨⟨(List.mem_of_getElem? (i := 12) rfl), tw_2_101, tw_1_12, tw_2_102⟩, rfl, by decide +kernel⟩ ⟨rfl, rfl⟩ ⟨by decide, by decide⟩ (by omega) hl (Nat.le_of_ble_eq_true rfl) ⟨by decide, by decide⟩ dX11_init_147 (fun σ52 hw => ?_)
  refine ml_aast (pc := 150) (k := 114) (i := 3) (v := 137) X (ml_k114 (by decide)) (fun _ => rfl) rfl (ml_k137 (by decide)) (by decide) rfl (Or.inr (by decide +kernel)) (by decide) (by decide) dX11_init_150 (fun σ53 g53 => ?_)
  have hw := hw σ53 g53
  refine ml_iinc (pc := 151) X (x := 3) (y := 4) (by decide) hl 0 rfl (by decide) (lst' := [(1, .int (Int32.ofInt 4)), (0, .ref (base + (1 : Int).toNat))]) rfl dX11_init_151 (fun ls hl => ?_)
  refine ml_goto (pc := 154) (tgt := 132) X dX11_init_154 (by decide) ?_
  refine ml_iload_n (pc := 132) X hl 0 rfl rfl dX11_init_132 ?_
  refine ml_bipush (pc := 133) X dX11_init_133 (by decide) ?_
  refine ml_icmp_ge (pc := 135) (tgt := 157) X ⟨by decide, by decide⟩ ⟨by decide, by decide⟩ dX11_init_135 (by decide) (fun c54 => absurd c54 (by decide)) (fun c54 => ?_)
  refine ml_aload_n (pc := 138) X hl 1 rfl rfl dX11_init_138 ?_
  obtain ⟨e55, hw⟩ := hw
  refine ml_getg (pc := 139) (k := 1) X in_X11 rfl (by decide) 8 (by decide) tw_2_159 (ml_k1 (by decide)) dX11_init_139 (v := .ref (base + (114 : Int).toNat)) (fun _ => by show (if σ53 1 8 = 0 then Value.null else .ref (base + (σ53 1 8).toNat)) = _; rw [e55]; exact if_neg (by omega)) (fun _ => ?_)
  refine ml_iload_n (pc := 142) X hl 0 rfl rfl dX11_init_142 ?_
  obtain ⟨z56, hw⟩ := hw
  refine ml_newO (n0 := 1) (kc := 141) (ks := 50549) (pc := 143) (k := 143) X hs ⟨tw_2_95, tw_2_99, tw_1_12⟩ in_X10 rfl (by decide) tk_X10 df_X10 (Or.inr (by omega)) (by omega) (by decide +kernel) z56 ⟨by decide, by decide⟩ dX11_init_143 ?_
  refine ml_dup (pc := 146) X dX11_init_146 rfl ?_
  refine ml_callC (n0 := 1) (kc := 142) (ks := 50557) (pc := 147) (k := 143) (mc := 5) (ms := 2128) X hs hNN (c_X10_init l base D cA (1 + 142) 143 (by omega) (by decide +kernel) σ53 _ hw) ⟨⟨(List.mem_of_getElem? (i := 12) rfl), tw_2_101, tw_1_12, tw_2_102⟩, rfl, by decide +kernel⟩ ⟨rfl, rfl⟩ ⟨by decide, by decide⟩ (by omega) hl (Nat.le_of_ble_eq_true rfl) ⟨by decide, by decide⟩ dX11_init_147 (fun σ57 hw => ?_)
  refine ml_aast (pc := 150) (k := 114) (i := 4) (v := 143) X (ml_k114 (by decide)) (fun _ => rfl) rfl (ml_k143 (by decide)) (by decide) rfl (Or.inr (by decide +kernel)) (by decide) (by decide) dX11_init_150 (fun σ58 g58 => ?_)
  have hw := hw σ58 g58
  refine ml_iinc (pc := 151) X (x := 4) (y := 5) (by decide) hl 0 rfl (by decide) (lst' := [(1, .int (Int32.ofInt 5)), (0, .ref (base + (1 : Int).toNat))]) rfl dX11_init_151 (fun ls hl => ?_)
  refine ml_goto (pc := 154) (tgt := 132) X dX11_init_154 (by decide) ?_
  refine ml_iload_n (pc := 132) X hl 0 rfl rfl dX11_init_132 ?_
  refine ml_bipush (pc := 133) X dX11_init_133 (by decide) ?_
  refine ml_icmp_ge (pc := 135) (tgt := 157) X ⟨by decide, by decide⟩ ⟨by decide, by decide⟩ dX11_init_135 (by decide) (fun c59 => absurd c59 (by decide)) (fun c59 => ?_)
  refine ml_aload_n (pc := 138) X hl 1 rfl rfl dX11_init_138 ?_
  obtain ⟨e60, hw⟩ := hw
  refine ml_getg (pc := 139) (k := 1) X in_X11 rfl (by decide) 8 (by decide) tw_2_159 (ml_k1 (by decide)) dX11_init_139 (v := .ref (base + (114 : Int).toNat)) (fun _ => by show (if σ58 1 8 = 0 then Value.null else .ref (base + (σ58 1 8).toNat)) = _; rw [e60]; exact if_neg (by omega)) (fun _ => ?_)
  refine ml_iload_n (pc := 142) X hl 0 rfl rfl dX11_init_142 ?_
  obtain ⟨z61, hw⟩ := hw
  refine ml_newO (n0 := 1) (kc := 147) (ks := 52685) (pc := 143) (k := 149) X hs ⟨tw_2_95, tw_2_99, tw_1_12⟩ in_X10 rfl (by decide) tk_X10 df_X10 (Or.inr (by omega)) (by omega) (by decide +kernel) z61 ⟨by decide, by decide⟩ dX11_init_143 ?_
  refine ml_dup (pc := 146) X dX11_init_146 rfl ?_
  refine ml_callC (n0 := 1) (kc := 148) (ks := 52693) (pc := 147) (k := 149) (mc := 5) (ms := 2128) X hs hNN (c_X10_init l base D cA (1 + 148) 149 (by omega) (by decide +kernel) σ58 _ hw) ⟨⟨(List.mem_of_getElem? (i := 12) rfl), tw_2_101, tw_1_12, tw_2_102⟩, rfl, by decide +kernel⟩ ⟨rfl, rfl⟩ ⟨by decide, by decide⟩ (by omega) hl (Nat.le_of_ble_eq_true rfl) ⟨by decide, by decide⟩ dX11_init_147 (fun σ62 hw => ?_)
  refine ml_aast (pc := 150) (k := 114) (i := 5) (v := 149) X (ml_k114 (by decide)) (fun _ => rfl) rfl (ml_k149 (by decide)) (by decide) rfl (Or.inr (by decide +kernel)) (by decide) (by decide) dX11_init_150 (fun σ63 g63 => ?_)
  have hw := hw σ63 g63
  refine ml_iinc (pc := 151) X (x := 5) (y := 6) (by decide) hl 0 rfl (by decide) (lst' := [(1, .int (Int32.ofInt 6)), (0, .ref (base + (1 : Int).toNat))]) rfl dX11_init_151 (fun ls hl => ?_)
  refine ml_goto (pc := 154) (tgt := 132) X dX11_init_154 (by decide) ?_
  refine ml_iload_n (pc := 132) X hl 0 rfl rfl dX11_init_132 ?_
  refine ml_bipush (pc := 133) X dX11_init_133 (by decide) ?_
  refine ml_icmp_ge (pc := 135) (tgt := 157) X ⟨by decide, by decide⟩ ⟨by decide, by decide⟩ dX11_init_135 (by decide) (fun c64 => absurd c64 (by decide)) (fun c64 => ?_)
  refine ml_aload_n (pc := 138) X hl 1 rfl rfl dX11_init_138 ?_
  obtain ⟨e65, hw⟩ := hw
  refine ml_getg (pc := 139) (k := 1) X in_X11 rfl (by decide) 8 (by decide) tw_2_159 (ml_k1 (by decide)) dX11_init_139 (v := .ref (base + (114 : Int).toNat)) (fun _ => by show (if σ63 1 8 = 0 then Value.null else .ref (base + (σ63 1 8).toNat)) = _; rw [e65]; exact if_neg (by omega)) (fun _ => ?_)
  refine ml_iload_n (pc := 142) X hl 0 rfl rfl dX11_init_142 ?_
  obtain ⟨z66, hw⟩ := hw
  refine ml_newO (n0 := 1) (kc := 153) (ks := 54821) (pc := 143) (k := 155) X hs ⟨tw_2_95, tw_2_99, tw_1_12⟩ in_X10 rfl (by decide) tk_X10 df_X10 (Or.inr (by omega)) (by omega) (by decide +kernel) z66 ⟨by decide, by decide⟩ dX11_init_143 ?_
  refine ml_dup (pc := 146) X dX11_init_146 rfl ?_
  refine ml_callC (n0 := 1) (kc := 154) (ks := 54829) (pc := 147) (k := 155) (mc := 5) (ms := 2128) X hs hNN (c_X10_init l base D cA (1 + 154) 155 (by omega) (by decide +kernel) σ63 _ hw) ⟨⟨(List.mem_of_getElem? (i := 12) rfl), tw_2_101, tw_1_12, tw_2_102⟩, rfl, by decide +kernel⟩ ⟨rfl, rfl⟩ ⟨by decide, by decide⟩ (by omega) hl (Nat.le_of_ble_eq_true rfl) ⟨by decide, by decide⟩ dX11_init_147 (fun σ67 hw => ?_)
  refine ml_aast (pc := 150) (k := 114) (i := 6) (v := 155) X (ml_k114 (by decide)) (fun _ => rfl) rfl (ml_k155 (by decide)) (by decide) rfl (Or.inr (by decide +kernel)) (by decide) (by decide) dX11_init_150 (fun σ68 g68 => ?_)
  have hw := hw σ68 g68
  refine ml_iinc (pc := 151) X (x := 6) (y := 7) (by decide) hl 0 rfl (by decide) (lst' := [(1, .int (Int32.ofInt 7)), (0, .ref (base + (1 : Int).toNat))]) rfl dX11_init_151 (fun ls hl => ?_)
  refine ml_goto (pc := 154) (tgt := 132) X dX11_init_154 (by decide) ?_
  refine ml_iload_n (pc := 132) X hl 0 rfl rfl dX11_init_132 ?_
  refine ml_bipush (pc := 133) X dX11_init_133 (by decide) ?_
  refine ml_icmp_ge (pc := 135) (tgt := 157) X ⟨by decide, by decide⟩ ⟨by decide, by decide⟩ dX11_init_135 (by decide) (fun c69 => absurd c69 (by decide)) (fun c69 => ?_)
  refine ml_aload_n (pc := 138) X hl 1 rfl rfl dX11_init_138 ?_
  obtain ⟨e70, hw⟩ := hw
  refine ml_getg (pc := 139) (k := 1) X in_X11 rfl (by decide) 8 (by decide) tw_2_159 (ml_k1 (by decide)) dX11_init_139 (v := .ref (base + (114 : Int).toNat)) (fun _ => by show (if σ68 1 8 = 0 then Value.null else .ref (base + (σ68 1 8).toNat)) = _; rw [e70]; exact if_neg (by omega)) (fun _ => ?_)
  refine ml_iload_n (pc := 142) X hl 0 rfl rfl dX11_init_142 ?_
  obtain ⟨z71, hw⟩ := hw
  refine ml_newO (n0 := 1) (kc := 159) (ks := 56957) (pc := 143) (k := 161) X hs ⟨tw_2_95, tw_2_99, tw_1_12⟩ in_X10 rfl (by decide) tk_X10 df_X10 (Or.inr (by omega)) (by omega) (by decide +kernel) z71 ⟨by decide, by decide⟩ dX11_init_143 ?_
  refine ml_dup (pc := 146) X dX11_init_146 rfl ?_
  refine ml_callC (n0 := 1) (kc := 160) (ks := 56965) (pc := 147) (k := 161) (mc := 5) (ms := 2128) X hs hNN (c_X10_init l base D cA (1 + 160) 161 (by omega) (by decide +kernel) σ68 _ hw) ⟨⟨(List.mem_of_getElem? (i := 12) rfl), tw_2_101, tw_1_12, tw_2_102⟩, rfl, by decide +kernel⟩ ⟨rfl, rfl⟩ ⟨by decide, by decide⟩ (by omega) hl (Nat.le_of_ble_eq_true rfl) ⟨by decide, by decide⟩ dX11_init_147 (fun σ72 hw => ?_)
  refine ml_aast (pc := 150) (k := 114) (i := 7) (v := 161) X (ml_k114 (by decide)) (fun _ => rfl) rfl (ml_k161 (by decide)) (by decide) rfl (Or.inr (by decide +kernel)) (by decide) (by decide) dX11_init_150 (fun σ73 g73 => ?_)
  have hw := hw σ73 g73
  refine ml_iinc (pc := 151) X (x := 7) (y := 8) (by decide) hl 0 rfl (by decide) (lst' := [(1, .int (Int32.ofInt 8)), (0, .ref (base + (1 : Int).toNat))]) rfl dX11_init_151 (fun ls hl => ?_)
  refine ml_goto (pc := 154) (tgt := 132) X dX11_init_154 (by decide) ?_
  refine ml_iload_n (pc := 132) X hl 0 rfl rfl dX11_init_132 ?_
  refine ml_bipush (pc := 133) X dX11_init_133 (by decide) ?_
  refine ml_icmp_ge (pc := 135) (tgt := 157) X ⟨by decide, by decide⟩ ⟨by decide, by decide⟩ dX11_init_135 (by decide) (fun c74 => absurd c74 (by decide)) (fun c74 => ?_)
  refine ml_aload_n (pc := 138) X hl 1 rfl rfl dX11_init_138 ?_
  obtain ⟨e75, hw⟩ := hw
  refine ml_getg (pc := 139) (k := 1) X in_X11 rfl (by decide) 8 (by decide) tw_2_159 (ml_k1 (by decide)) dX11_init_139 (v := .ref (base + (114 : Int).toNat)) (fun _ => by show (if σ73 1 8 = 0 then Value.null else .ref (base + (σ73 1 8).toNat)) = _; rw [e75]; exact if_neg (by omega)) (fun _ => ?_)
  refine ml_iload_n (pc := 142) X hl 0 rfl rfl dX11_init_142 ?_
  obtain ⟨z76, hw⟩ := hw
  refine ml_newO (n0 := 1) (kc := 165) (ks := 59093) (pc := 143) (k := 167) X hs ⟨tw_2_95, tw_2_99, tw_1_12⟩ in_X10 rfl (by decide) tk_X10 df_X10 (Or.inr (by omega)) (by omega) (by decide +kernel) z76 ⟨by decide, by decide⟩ dX11_init_143 ?_
  refine ml_dup (pc := 146) X dX11_init_146 rfl ?_
  refine ml_callC (n0 := 1) (kc := 166) (ks := 59101) (pc := 147) (k := 167) (mc := 5) (ms := 2128) X hs hNN (c_X10_init l base D cA (1 + 166) 167 (by omega) (by decide +kernel) σ73 _ hw) ⟨⟨(List.mem_of_getElem? (i := 12) rfl), tw_2_101, tw_1_12, tw_2_102⟩, rfl, by decide +kernel⟩ ⟨rfl, rfl⟩ ⟨by decide, by decide⟩ (by omega) hl (Nat.le_of_ble_eq_true rfl) ⟨by decide, by decide⟩ dX11_init_147 (fun σ77 hw => ?_)
  refine ml_aast (pc := 150) (k := 114) (i := 8) (v := 167) X (ml_k114 (by decide)) (fun _ => rfl) rfl (ml_k167 (by decide)) (by decide) rfl (Or.inr (by decide +kernel)) (by decide) (by decide) dX11_init_150 (fun σ78 g78 => ?_)
  have hw := hw σ78 g78
  refine ml_iinc (pc := 151) X (x := 8) (y := 9) (by decide) hl 0 rfl (by decide) (lst' := [(1, .int (Int32.ofInt 9)), (0, .ref (base + (1 : Int).toNat))]) rfl dX11_init_151 (fun ls hl => ?_)
  refine ml_goto (pc := 154) (tgt := 132) X dX11_init_154 (by decide) ?_
  refine ml_iload_n (pc := 132) X hl 0 rfl rfl dX11_init_132 ?_
  refine ml_bipush (pc := 133) X dX11_init_133 (by decide) ?_
  refine ml_icmp_ge (pc := 135) (tgt := 157) X ⟨by decide, by decide⟩ ⟨by decide, by decide⟩ dX11_init_135 (by decide) (fun c79 => absurd c79 (by decide)) (fun c79 => ?_)
  refine ml_aload_n (pc := 138) X hl 1 rfl rfl dX11_init_138 ?_
  obtain ⟨e80, hw⟩ := hw
  refine ml_getg (pc := 139) (k := 1) X in_X11 rfl (by decide) 8 (by decide) tw_2_159 (ml_k1 (by decide)) dX11_init_139 (v := .ref (base + (114 : Int).toNat)) (fun _ => by show (if σ78 1 8 = 0 then Value.null else .ref (base + (σ78 1 8).toNat)) = _; rw [e80]; exact if_neg (by omega)) (fun _ => ?_)
  refine ml_iload_n (pc := 142) X hl 0 rfl rfl dX11_init_142 ?_
  obtain ⟨z81, hw⟩ := hw
  refine ml_newO (n0 := 1) (kc := 171) (ks := 61229) (pc := 143) (k := 173) X hs ⟨tw_2_95, tw_2_99, tw_1_12⟩ in_X10 rfl (by decide) tk_X10 df_X10 (Or.inr (by omega)) (by omega) (by decide +kernel) z81 ⟨by decide, by decide⟩ dX11_init_143 ?_
  refine ml_dup (pc := 146) X dX11_init_146 rfl ?_
  refine ml_callC (n0 := 1) (kc := 172) (ks := 61237) (pc := 147) (k := 173) (mc := 5) (ms := 2128) X hs hNN (c_X10_init l base D cA (1 + 172) 173 (by omega) (by decide +kernel) σ78 _ hw) ⟨⟨(List.mem_of_getElem? (i := 12) rfl), tw_2_101, tw_1_12, tw_2_102⟩, rfl, by decide +kernel⟩ ⟨rfl, rfl⟩ ⟨by decide, by decide⟩ (by omega) hl (Nat.le_of_ble_eq_true rfl) ⟨by decide, by decide⟩ dX11_init_147 (fun σ82 hw => ?_)
  refine ml_aast (pc := 150) (k := 114) (i := 9) (v := 173) X (ml_k114 (by decide)) (fun _ => rfl) rfl (ml_k173 (by decide)) (by decide) rfl (Or.inr (by decide +kernel)) (by decide) (by decide) dX11_init_150 (fun σ83 g83 => ?_)
  have hw := hw σ83 g83
  refine ml_iinc (pc := 151) X (x := 9) (y := 10) (by decide) hl 0 rfl (by decide) (lst' := [(1, .int (Int32.ofInt 10)), (0, .ref (base + (1 : Int).toNat))]) rfl dX11_init_151 (fun ls hl => ?_)
  refine ml_goto (pc := 154) (tgt := 132) X dX11_init_154 (by decide) ?_
  refine ml_iload_n (pc := 132) X hl 0 rfl rfl dX11_init_132 ?_
  refine ml_bipush (pc := 133) X dX11_init_133 (by decide) ?_
  refine ml_icmp_ge (pc := 135) (tgt := 157) X ⟨by decide, by decide⟩ ⟨by decide, by decide⟩ dX11_init_135 (by decide) (fun c84 => absurd c84 (by decide)) (fun c84 => ?_)
  refine ml_aload_n (pc := 138) X hl 1 rfl rfl dX11_init_138 ?_
  obtain ⟨e85, hw⟩ := hw
  refine ml_getg (pc := 139) (k := 1) X in_X11 rfl (by decide) 8 (by decide) tw_2_159 (ml_k1 (by decide)) dX11_init_139 (v := .ref (base + (114 : Int).toNat)) (fun _ => by show (if σ83 1 8 = 0 then Value.null else .ref (base + (σ83 1 8).toNat)) = _; rw [e85]; exact if_neg (by omega)) (fun _ => ?_)
  refine ml_iload_n (pc := 142) X hl 0 rfl rfl dX11_init_142 ?_
  obtain ⟨z86, hw⟩ := hw
  refine ml_newO (n0 := 1) (kc := 177) (ks := 63365) (pc := 143) (k := 179) X hs ⟨tw_2_95, tw_2_99, tw_1_12⟩ in_X10 rfl (by decide) tk_X10 df_X10 (Or.inr (by omega)) (by omega) (by decide +kernel) z86 ⟨by decide, by decide⟩ dX11_init_143 ?_
  refine ml_dup (pc := 146) X dX11_init_146 rfl ?_
  refine ml_callC (n0 := 1) (kc := 178) (ks := 63373) (pc := 147) (k := 179) (mc := 5) (ms := 2128) X hs hNN (c_X10_init l base D cA (1 + 178) 179 (by omega) (by decide +kernel) σ83 _ hw) ⟨⟨(List.mem_of_getElem? (i := 12) rfl), tw_2_101, tw_1_12, tw_2_102⟩, rfl, by decide +kernel⟩ ⟨rfl, rfl⟩ ⟨by decide, by decide⟩ (by omega) hl (Nat.le_of_ble_eq_true rfl) ⟨by decide, by decide⟩ dX11_init_147 (fun σ87 hw => ?_)
  refine ml_aast (pc := 150) (k := 114) (i := 10) (v := 179) X (ml_k114 (by decide)) (fun _ => rfl) rfl (ml_k179 (by decide)) (by decide) rfl (Or.inr (by decide +kernel)) (by decide) (by decide) dX11_init_150 (fun σ88 g88 => ?_)
  have hw := hw σ88 g88
  refine ml_iinc (pc := 151) X (x := 10) (y := 11) (by decide) hl 0 rfl (by decide) (lst' := [(1, .int (Int32.ofInt 11)), (0, .ref (base + (1 : Int).toNat))]) rfl dX11_init_151 (fun ls hl => ?_)
  refine ml_goto (pc := 154) (tgt := 132) X dX11_init_154 (by decide) ?_
  refine ml_iload_n (pc := 132) X hl 0 rfl rfl dX11_init_132 ?_
  refine ml_bipush (pc := 133) X dX11_init_133 (by decide) ?_
  refine ml_icmp_ge (pc := 135) (tgt := 157) X ⟨by decide, by decide⟩ ⟨by decide, by decide⟩ dX11_init_135 (by decide) (fun c89 => absurd c89 (by decide)) (fun c89 => ?_)
  refine ml_aload_n (pc := 138) X hl 1 rfl rfl dX11_init_138 ?_
  obtain ⟨e90, hw⟩ := hw
  refine ml_getg (pc := 139) (k := 1) X in_X11 rfl (by decide) 8 (by decide) tw_2_159 (ml_k1 (by decide)) dX11_init_139 (v := .ref (base + (114 : Int).toNat)) (fun _ => by show (if σ88 1 8 = 0 then Value.null else .ref (base + (σ88 1 8).toNat)) = _; rw [e90]; exact if_neg (by omega)) (fun _ => ?_)
  refine ml_iload_n (pc := 142) X hl 0 rfl rfl dX11_init_142 ?_
  obtain ⟨z91, hw⟩ := hw
  refine ml_newO (n0 := 1) (kc := 183) (ks := 65501) (pc := 143) (k := 185) X hs ⟨tw_2_95, tw_2_99, tw_1_12⟩ in_X10 rfl (by decide) tk_X10 df_X10 (Or.inr (by omega)) (by omega) (by decide +kernel) z91 ⟨by decide, by decide⟩ dX11_init_143 ?_
  refine ml_dup (pc := 146) X dX11_init_146 rfl ?_
  refine ml_callC (n0 := 1) (kc := 184) (ks := 65509) (pc := 147) (k := 185) (mc := 5) (ms := 2128) X hs hNN (c_X10_init l base D cA (1 + 184) 185 (by omega) (by decide +kernel) σ88 _ hw) ⟨⟨(List.mem_of_getElem? (i := 12) rfl), tw_2_101, tw_1_12, tw_2_102⟩, rfl, by decide +kernel⟩ ⟨rfl, rfl⟩ ⟨by decide, by decide⟩ (by omega) hl (Nat.le_of_ble_eq_true rfl) ⟨by decide, by decide⟩ dX11_init_147 (fun σ92 hw => ?_)
  refine ml_aast (pc := 150) (k := 114) (i := 11) (v := 185) X (ml_k114 (by decide)) (fun _ => rfl) rfl (ml_k185 (by decide)) (by decide) rfl (Or.inr (by decide +kernel)) (by decide) (by decide) dX11_init_150 (fun σ93 g93 => ?_)
  have hw := hw σ93 g93
  refine ml_iinc (pc := 151) X (x := 11) (y := 12) (by decide) hl 0 rfl (by decide) (lst' := [(1, .int (Int32.ofInt 12)), (0, .ref (base + (1 : Int).toNat))]) rfl dX11_init_151 (fun ls hl => ?_)
  refine ml_goto (pc := 154) (tgt := 132) X dX11_init_154 (by decide) ?_
  refine ml_iload_n (pc := 132) X hl 0 rfl rfl dX11_init_132 ?_
  refine ml_bipush (pc := 133) X dX11_init_133 (by decide) ?_
  refine ml_icmp_ge (pc := 135) (tgt := 157) X ⟨by decide, by decide⟩ ⟨by decide, by decide⟩ dX11_init_135 (by decide) (fun c94 => absurd c94 (by decide)) (fun c94 => ?_)
  refine ml_aload_n (pc := 138) X hl 1 rfl rfl dX11_init_138 ?_
  obtain ⟨e95, hw⟩ := hw
  refine ml_getg (pc := 139) (k := 1) X in_X11 rfl (by decide) 8 (by decide) tw_2_159 (ml_k1 (by decide)) dX11_init_139 (v := .ref (base + (114 : Int).toNat)) (fun _ => by show (if σ93 1 8 = 0 then Value.null else .ref (base + (σ93 1 8).toNat)) = _; rw [e95]; exact if_neg (by omega)) (fun _ => ?_)
  refine ml_iload_n (pc := 142) X hl 0 rfl rfl dX11_init_142 ?_
  obtain ⟨z96, hw⟩ := hw
  refine ml_newO (n0 := 1) (kc := 189) (ks := 67637) (pc := 143) (k := 191) X hs ⟨tw_2_95, tw_2_99, tw_1_12⟩ in_X10 rfl (by decide) tk_X10 df_X10 (Or.inr (by omega)) (by omega) (by decide +kernel) z96 ⟨by decide, by decide⟩ dX11_init_143 ?_
  refine ml_dup (pc := 146) X dX11_init_146 rfl ?_
  refine ml_callC (n0 := 1) (kc := 190) (ks := 67645) (pc := 147) (k := 191) (mc := 5) (ms := 2128) X hs hNN (c_X10_init l base D cA (1 + 190) 191 (by omega) (by decide +kernel) σ93 _ hw) ⟨⟨(List.mem_of_getElem? (i := 12) rfl), tw_2_101, tw_1_12, tw_2_102⟩, rfl, by decide +kernel⟩ ⟨rfl, rfl⟩ ⟨by decide, by decide⟩ (by omega) hl (Nat.le_of_ble_eq_true rfl) ⟨by decide, by decide⟩ dX11_init_147 (fun σ97 hw => ?_)
  refine ml_aast (pc := 150) (k := 114) (i := 12) (v := 191) X (ml_k114 (by decide)) (fun _ => rfl) rfl (ml_k191 (by decide)) (by decide) rfl (Or.inr (by decide +kernel)) (by decide) (by decide) dX11_init_150 (fun σ98 g98 => ?_)
  have hw := hw σ98 g98
  refine ml_iinc (pc := 151) X (x := 12) (y := 13) (by decide) hl 0 rfl (by decide) (lst' := [(1, .int (Int32.ofInt 13)), (0, .ref (base + (1 : Int).toNat))]) rfl dX11_init_151 (fun ls hl => ?_)
  refine ml_goto (pc := 154) (tgt := 132) X dX11_init_154 (by decide) ?_
  refine ml_iload_n (pc := 132) X hl 0 rfl rfl dX11_init_132 ?_
  refine ml_bipush (pc := 133) X dX11_init_133 (by decide) ?_
  refine ml_icmp_ge (pc := 135) (tgt := 157) X ⟨by decide, by decide⟩ ⟨by decide, by decide⟩ dX11_init_135 (by decide) (fun c99 => absurd c99 (by decide)) (fun c99 => ?_)
  refine ml_aload_n (pc := 138) X hl 1 rfl rfl dX11_init_138 ?_
  obtain ⟨e100, hw⟩ := hw
  refine ml_getg (pc := 139) (k := 1) X in_X11 rfl (by decide) 8 (by decide) tw_2_159 (ml_k1 (by decide)) dX11_init_139 (v := .ref (base + (114 : Int).toNat)) (fun _ => by show (if σ98 1 8 = 0 then Value.null else .ref (base + (σ98 1 8).toNat)) = _; rw [e100]; exact if_neg (by omega)) (fun _ => ?_)
  refine ml_iload_n (pc := 142) X hl 0 rfl rfl dX11_init_142 ?_
  obtain ⟨z101, hw⟩ := hw
  refine ml_newO (n0 := 1) (kc := 195) (ks := 69773) (pc := 143) (k := 197) X hs ⟨tw_2_95, tw_2_99, tw_1_12⟩ in_X10 rfl (by decide) tk_X10 df_X10 (Or.inr (by omega)) (by omega) (by decide +kernel) z101 ⟨by decide, by decide⟩ dX11_init_143 ?_
  refine ml_dup (pc := 146) X dX11_init_146 rfl ?_
  refine ml_callC (n0 := 1) (kc := 196) (ks := 69781) (pc := 147) (k := 197) (mc := 5) (ms := 2128) X hs hNN (c_X10_init l base D cA (1 + 196) 197 (by omega) (by decide +kernel) σ98 _ hw) ⟨⟨(List.mem_of_getElem? (i := 12) rfl), tw_2_101, tw_1_12, tw_2_102⟩, rfl, by decide +kernel⟩ ⟨rfl, rfl⟩ ⟨by decide, by decide⟩ (by omega) hl (Nat.le_of_ble_eq_true rfl) ⟨by decide, by decide⟩ dX11_init_147 (fun σ102 hw => ?_)
  refine ml_aast (pc := 150) (k := 114) (i := 13) (v := 197) X (ml_k114 (by decide)) (fun _ => rfl) rfl (ml_k197 (by decide)) (by decide) rfl (Or.inr (by decide +kernel)) (by decide) (by decide) dX11_init_150 (fun σ103 g103 => ?_)
  have hw := hw σ103 g103
  refine ml_iinc (pc := 151) X (x := 13) (y := 14) (by decide) hl 0 rfl (by decide) (lst' := [(1, .int (Int32.ofInt 14)), (0, .ref (base + (1 : Int).toNat))]) rfl dX11_init_151 (fun ls hl => ?_)
  refine ml_goto (pc := 154) (tgt := 132) X dX11_init_154 (by decide) ?_
  refine ml_iload_n (pc := 132) X hl 0 rfl rfl dX11_init_132 ?_
  refine ml_bipush (pc := 133) X dX11_init_133 (by decide) ?_
  refine ml_icmp_ge (pc := 135) (tgt := 157) X ⟨by decide, by decide⟩ ⟨by decide, by decide⟩ dX11_init_135 (by decide) (fun c104 => absurd c104 (by decide)) (fun c104 => ?_)
  refine ml_aload_n (pc := 138) X hl 1 rfl rfl dX11_init_138 ?_
  obtain ⟨e105, hw⟩ := hw
  refine ml_getg (pc := 139) (k := 1) X in_X11 rfl (by decide) 8 (by decide) tw_2_159 (ml_k1 (by decide)) dX11_init_139 (v := .ref (base + (114 : Int).toNat)) (fun _ => by show (if σ103 1 8 = 0 then Value.null else .ref (base + (σ103 1 8).toNat)) = _; rw [e105]; exact if_neg (by omega)) (fun _ => ?_)
  refine ml_iload_n (pc := 142) X hl 0 rfl rfl dX11_init_142 ?_
  obtain ⟨z106, hw⟩ := hw
  refine ml_newO (n0 := 1) (kc := 201) (ks := 71909) (pc := 143) (k := 203) X hs ⟨tw_2_95, tw_2_99, tw_1_12⟩ in_X10 rfl (by decide) tk_X10 df_X10 (Or.inr (by omega)) (by omega) (by decide +kernel) z106 ⟨by decide, by decide⟩ dX11_init_143 ?_
  refine ml_dup (pc := 146) X dX11_init_146 rfl ?_
  refine ml_callC (n0 := 1) (kc := 202) (ks := 71917) (pc := 147) (k := 203) (mc := 5) (ms := 2128) X hs hNN (c_X10_init l base D cA (1 + 202) 203 (by omega) (by decide +kernel) σ103 _ hw) ⟨⟨(List.mem_of_getElem? (i := 12) rfl), tw_2_101, tw_1_12, tw_2_102⟩, rfl, by decide +kernel⟩ ⟨rfl, rfl⟩ ⟨by decide, by decide⟩ (by omega) hl (Nat.le_of_ble_eq_true rfl) ⟨by decide, by decide⟩ dX11_init_147 (fun σ107 hw => ?_)
  refine ml_aast (pc := 150) (k := 114) (i := 14) (v := 203) X (ml_k114 (by decide)) (fun _ => rfl) rfl (ml_k203 (by decide)) (by decide) rfl (Or.inr (by decide +kernel)) (by decide) (by decide) dX11_init_150 (fun σ108 g108 => ?_)
  have hw := hw σ108 g108
  refine ml_iinc (pc := 151) X (x := 14) (y := 15) (by decide) hl 0 rfl (by decide) (lst' := [(1, .int (Int32.ofInt 15)), (0, .ref (base + (1 : Int).toNat))]) rfl dX11_init_151 (fun ls hl => ?_)
  refine ml_goto (pc := 154) (tgt := 132) X dX11_init_154 (by decide) ?_
  refine ml_iload_n (pc := 132) X hl 0 rfl rfl dX11_init_132 ?_
  refine ml_bipush (pc := 133) X dX11_init_133 (by decide) ?_
  refine ml_icmp_ge (pc := 135) (tgt := 157) X ⟨by decide, by decide⟩ ⟨by decide, by decide⟩ dX11_init_135 (by decide) (fun c109 => absurd c109 (by decide)) (fun c109 => ?_)
  refine ml_aload_n (pc := 138) X hl 1 rfl rfl dX11_init_138 ?_
  obtain ⟨e110, hw⟩ := hw
  refine ml_getg (pc := 139) (k := 1) X in_X11 rfl (by decide) 8 (by decide) tw_2_159 (ml_k1 (by decide)) dX11_init_139 (v := .ref (base + (114 : Int).toNat)) (fun _ => by show (if σ108 1 8 = 0 then Value.null else .ref (base + (σ108 1 8).toNat)) = _; rw [e110]; exact if_neg (by omega)) (fun _ => ?_)
  refine ml_iload_n (pc := 142) X hl 0 rfl rfl dX11_init_142 ?_
  obtain ⟨z111, hw⟩ := hw
  refine ml_newO (n0 := 1) (kc := 207) (ks := 74045) (pc := 143) (k := 209) X hs ⟨tw_2_95, tw_2_99, tw_1_12⟩ in_X10 rfl (by decide) tk_X10 df_X10 (Or.inr (by omega)) (by omega) (by decide +kernel) z111 ⟨by decide, by decide⟩ dX11_init_143 ?_
  refine ml_dup (pc := 146) X dX11_init_146 rfl ?_
  refine ml_callC (n0 := 1) (kc := 208) (ks := 74053) (pc := 147) (k := 209) (mc := 5) (ms := 2128) X hs hNN (c_X10_init l base D cA (1 + 208) 209 (by omega) (by decide +kernel) σ108 _ hw) ⟨⟨(List.mem_of_getElem? (i := 12) rfl), tw_2_101, tw_1_12, tw_2_102⟩, rfl, by decide +kernel⟩ ⟨rfl, rfl⟩ ⟨by decide, by decide⟩ (by omega) hl (Nat.le_of_ble_eq_true rfl) ⟨by decide, by decide⟩ dX11_init_147 (fun σ112 hw => ?_)
  refine ml_aast (pc := 150) (k := 114) (i := 15) (v := 209) X (ml_k114 (by decide)) (fun _ => rfl) rfl (ml_k209 (by decide)) (by decide) rfl (Or.inr (by decide +kernel)) (by decide) (by decide) dX11_init_150 (fun σ113 g113 => ?_)
  have hw := hw σ113 g113
  refine ml_iinc (pc := 151) X (x := 15) (y := 16) (by decide) hl 0 rfl (by decide) (lst' := [(1, .int (Int32.ofInt 16)), (0, .ref (base + (1 : Int).toNat))]) rfl dX11_init_151 (fun ls hl => ?_)
  refine ml_goto (pc := 154) (tgt := 132) X dX11_init_154 (by decide) ?_
  refine ml_iload_n (pc := 132) X hl 0 rfl rfl dX11_init_132 ?_
  refine ml_bipush (pc := 133) X dX11_init_133 (by decide) ?_
  refine ml_icmp_ge (pc := 135) (tgt := 157) X ⟨by decide, by decide⟩ ⟨by decide, by decide⟩ dX11_init_135 (by decide) (fun c114 => ?_) (fun c114 => absurd c114 (by decide))
  refine ml_aload_n (pc := 157) X hl 1 rfl rfl dX11_init_157 ?_
  obtain ⟨e115, hw⟩ := hw
  refine ml_getg (pc := 158) (k := 1) X in_X11 rfl (by decide) 1 (by decide) tw_2_152 (ml_k1 (by decide)) dX11_init_158 (v := .ref (base + (4 : Int).toNat)) (fun _ => by show (if σ113 1 1 = 0 then Value.null else .ref (base + (σ113 1 1).toNat)) = _; rw [e115]; exact if_neg (by omega)) (fun _ => ?_)
  refine ml_aload_n (pc := 161) X hl 1 rfl rfl dX11_init_161 ?_
  refine ml_getg (pc := 162) (k := 1) X in_X11 rfl (by decide) 11 (by decide) tw_2_162 (ml_k1 (by decide)) dX11_init_162 (v := .int (Int32.ofInt (σ113 1 11))) (fun _ => rfl) (fun r116 => ?_)
  have hw := hw r116
  obtain ⟨o117, hw⟩ := hw
  refine ml_toRO o117 ?_
  have hn : 214 ≤ 1 + 213 := by decide
  refine ml_callvV (pc := 165) (rest := []) (n := 1 + 213) X [.int (Int32.ofInt (σ113 1 11))] (by decide) rfl (ml_k4 (by decide)) (c_X0_goRound l base D cA _ hn σ113 (σ113 1 11) r116 _ hw) cv_X11_90 ⟨rfl, rfl⟩ ⟨by decide, by decide⟩ rfl rfl hl (Nat.le_of_ble_eq_true rfl) ⟨by decide, by decide⟩ dX11_init_165 (fun σ117 hw => ?_)
  exact ml_vretC (pc := 168) X hw dX11_init_168
theorem dX12_init_0 : decode cX12_init 0 = .ok (.aload_n 0, 1) := by decide +kernel
theorem dX12_init_1 : decode cX12_init 1 = .ok (.invokespecial 1, 3) := by decide +kernel
theorem dX12_init_4 : decode cX12_init 4 = .ok (.aload_n 0, 1) := by decide +kernel
theorem dX12_init_5 : decode cX12_init 5 = .ok (.sipush 200, 3) := by decide +kernel
theorem dX12_init_8 : decode cX12_init 8 = .ok (.newarray .byte, 2) := by decide +kernel
theorem dX12_init_10 : decode cX12_init 10 = .ok (.putfield 7, 3) := by decide +kernel
theorem dX12_init_13 : decode cX12_init 13 = .ok (.aload_n 0, 1) := by decide +kernel
theorem dX12_init_14 : decode cX12_init 14 = .ok (.iconst 4, 1) := by decide +kernel
theorem dX12_init_15 : decode cX12_init 15 = .ok (.putfield 13, 3) := by decide +kernel
theorem dX12_init_18 : decode cX12_init 18 = .ok (.aload_n 0, 1) := by decide +kernel
theorem dX12_init_19 : decode cX12_init 19 = .ok (.bipush 10, 2) := by decide +kernel
theorem dX12_init_21 : decode cX12_init 21 = .ok (.newarray .int, 2) := by decide +kernel
theorem dX12_init_23 : decode cX12_init 23 = .ok (.putfield 17, 3) := by decide +kernel
theorem dX12_init_26 : decode cX12_init 26 = .ok (.aload_n 0, 1) := by decide +kernel
theorem dX12_init_27 : decode cX12_init 27 = .ok (.sipush 1600, 3) := by decide +kernel
theorem dX12_init_30 : decode cX12_init 30 = .ok (.newarray .byte, 2) := by decide +kernel
theorem dX12_init_32 : decode cX12_init 32 = .ok (.putfield 21, 3) := by decide +kernel
theorem dX12_init_35 : decode cX12_init 35 = .ok (.aload_n 0, 1) := by decide +kernel
theorem dX12_init_36 : decode cX12_init 36 = .ok (.bipush 16, 2) := by decide +kernel
theorem dX12_init_38 : decode cX12_init 38 = .ok (.newarray .int, 2) := by decide +kernel
theorem dX12_init_40 : decode cX12_init 40 = .ok (.putfield 24, 3) := by decide +kernel
theorem dX12_init_43 : decode cX12_init 43 = .ok (.aload_n 0, 1) := by decide +kernel
theorem dX12_init_44 : decode cX12_init 44 = .ok (.bipush 16, 2) := by decide +kernel
theorem dX12_init_46 : decode cX12_init 46 = .ok (.newarray .int, 2) := by decide +kernel
theorem dX12_init_48 : decode cX12_init 48 = .ok (.putfield 27, 3) := by decide +kernel
theorem dX12_init_51 : decode cX12_init 51 = .ok (.aload_n 0, 1) := by decide +kernel
theorem dX12_init_52 : decode cX12_init 52 = .ok (.bipush 16, 2) := by decide +kernel
theorem dX12_init_54 : decode cX12_init 54 = .ok (.newarray .long, 2) := by decide +kernel
theorem dX12_init_56 : decode cX12_init 56 = .ok (.putfield 30, 3) := by decide +kernel
theorem dX12_init_59 : decode cX12_init 59 = .ok (.aload_n 0, 1) := by decide +kernel
theorem dX12_init_60 : decode cX12_init 60 = .ok (.bipush 16, 2) := by decide +kernel
theorem dX12_init_62 : decode cX12_init 62 = .ok (.newarray .long, 2) := by decide +kernel
theorem dX12_init_64 : decode cX12_init 64 = .ok (.putfield 34, 3) := by decide +kernel
theorem dX12_init_67 : decode cX12_init 67 = .ok (.aload_n 0, 1) := by decide +kernel
theorem dX12_init_68 : decode cX12_init 68 = .ok (.bipush 8, 2) := by decide +kernel
theorem dX12_init_70 : decode cX12_init 70 = .ok (.newarray .long, 2) := by decide +kernel
theorem dX12_init_72 : decode cX12_init 72 = .ok (.putfield 37, 3) := by decide +kernel
theorem dX12_init_75 : decode cX12_init 75 = .ok (.aload_n 0, 1) := by decide +kernel
theorem dX12_init_76 : decode cX12_init 76 = .ok (.bipush 8, 2) := by decide +kernel
theorem dX12_init_78 : decode cX12_init 78 = .ok (.newarray .long, 2) := by decide +kernel
theorem dX12_init_80 : decode cX12_init 80 = .ok (.putfield 40, 3) := by decide +kernel
theorem dX12_init_83 : decode cX12_init 83 = .ok (.aload_n 0, 1) := by decide +kernel
theorem dX12_init_84 : decode cX12_init 84 = .ok (.bipush 8, 2) := by decide +kernel
theorem dX12_init_86 : decode cX12_init 86 = .ok (.newarray .long, 2) := by decide +kernel
theorem dX12_init_88 : decode cX12_init 88 = .ok (.putfield 43, 3) := by decide +kernel
theorem dX12_init_91 : decode cX12_init 91 = .ok (.aload_n 0, 1) := by decide +kernel
theorem dX12_init_92 : decode cX12_init 92 = .ok (.bipush 8, 2) := by decide +kernel
theorem dX12_init_94 : decode cX12_init 94 = .ok (.newarray .long, 2) := by decide +kernel
theorem dX12_init_96 : decode cX12_init 96 = .ok (.putfield 46, 3) := by decide +kernel
theorem dX12_init_99 : decode cX12_init 99 = .ok (.aload_n 0, 1) := by decide +kernel
theorem dX12_init_100 : decode cX12_init 100 = .ok (.sipush 640, 3) := by decide +kernel
theorem dX12_init_103 : decode cX12_init 103 = .ok (.newarray .int, 2) := by decide +kernel
theorem dX12_init_105 : decode cX12_init 105 = .ok (.putfield 49, 3) := by decide +kernel
theorem dX12_init_108 : decode cX12_init 108 = .ok (.aload_n 0, 1) := by decide +kernel
theorem dX12_init_109 : decode cX12_init 109 = .ok (.sipush 640, 3) := by decide +kernel
theorem dX12_init_112 : decode cX12_init 112 = .ok (.newarray .long, 2) := by decide +kernel
theorem dX12_init_114 : decode cX12_init 114 = .ok (.putfield 52, 3) := by decide +kernel
theorem dX12_init_117 : decode cX12_init 117 = .ok (.aload_n 0, 1) := by decide +kernel
theorem dX12_init_118 : decode cX12_init 118 = .ok (.bipush 64, 2) := by decide +kernel
theorem dX12_init_120 : decode cX12_init 120 = .ok (.newarray .long, 2) := by decide +kernel
theorem dX12_init_122 : decode cX12_init 122 = .ok (.putfield 55, 3) := by decide +kernel
theorem dX12_init_125 : decode cX12_init 125 = .ok (.aload_n 0, 1) := by decide +kernel
theorem dX12_init_126 : decode cX12_init 126 = .ok (.bipush 64, 2) := by decide +kernel
theorem dX12_init_128 : decode cX12_init 128 = .ok (.newarray .long, 2) := by decide +kernel
theorem dX12_init_130 : decode cX12_init 130 = .ok (.putfield 58, 3) := by decide +kernel
theorem dX12_init_133 : decode cX12_init 133 = .ok (.aload_n 0, 1) := by decide +kernel
theorem dX12_init_134 : decode cX12_init 134 = .ok (.bipush 64, 2) := by decide +kernel
theorem dX12_init_136 : decode cX12_init 136 = .ok (.newarray .long, 2) := by decide +kernel
theorem dX12_init_138 : decode cX12_init 138 = .ok (.putfield 61, 3) := by decide +kernel
theorem dX12_init_141 : decode cX12_init 141 = .ok (.aload_n 0, 1) := by decide +kernel
theorem dX12_init_142 : decode cX12_init 142 = .ok (.iconst 5, 1) := by decide +kernel
theorem dX12_init_143 : decode cX12_init 143 = .ok (.newarray .boolean, 2) := by decide +kernel
theorem dX12_init_145 : decode cX12_init 145 = .ok (.putfield 64, 3) := by decide +kernel
theorem dX12_init_148 : decode cX12_init 148 = .ok (.aload_n 0, 1) := by decide +kernel
theorem dX12_init_149 : decode cX12_init 149 = .ok (.bipush 100, 2) := by decide +kernel
theorem dX12_init_151 : decode cX12_init 151 = .ok (.newarray .byte, 2) := by decide +kernel
theorem dX12_init_153 : decode cX12_init 153 = .ok (.putfield 68, 3) := by decide +kernel
theorem dX12_init_156 : decode cX12_init 156 = .ok (.aload_n 0, 1) := by decide +kernel
theorem dX12_init_157 : decode cX12_init 157 = .ok (.bipush 10, 2) := by decide +kernel
theorem dX12_init_159 : decode cX12_init 159 = .ok (.newarray .boolean, 2) := by decide +kernel
theorem dX12_init_161 : decode cX12_init 161 = .ok (.putfield 71, 3) := by decide +kernel
theorem dX12_init_164 : decode cX12_init 164 = .ok (.aload_n 0, 1) := by decide +kernel
theorem dX12_init_165 : decode cX12_init 165 = .ok (.sipush 1000, 3) := by decide +kernel
theorem dX12_init_168 : decode cX12_init 168 = .ok (.newarray .long, 2) := by decide +kernel
theorem dX12_init_170 : decode cX12_init 170 = .ok (.putfield 74, 3) := by decide +kernel
theorem dX12_init_173 : decode cX12_init 173 = .ok (.aload_n 0, 1) := by decide +kernel
theorem dX12_init_174 : decode cX12_init 174 = .ok (.sipush 2900, 3) := by decide +kernel
theorem dX12_init_177 : decode cX12_init 177 = .ok (.newarray .long, 2) := by decide +kernel
theorem dX12_init_179 : decode cX12_init 179 = .ok (.putfield 77, 3) := by decide +kernel
theorem dX12_init_182 : decode cX12_init 182 = .ok (.aload_n 0, 1) := by decide +kernel
theorem dX12_init_183 : decode cX12_init 183 = .ok (.bipush 6, 2) := by decide +kernel
theorem dX12_init_185 : decode cX12_init 185 = .ok (.newarray .int, 2) := by decide +kernel
theorem dX12_init_187 : decode cX12_init 187 = .ok (.putfield 80, 3) := by decide +kernel
theorem dX12_init_190 : decode cX12_init 190 = .ok (.aload_n 0, 1) := by decide +kernel
theorem dX12_init_191 : decode cX12_init 191 = .ok (.sipush 950, 3) := by decide +kernel
theorem dX12_init_194 : decode cX12_init 194 = .ok (.newarray .long, 2) := by decide +kernel
theorem dX12_init_196 : decode cX12_init 196 = .ok (.putfield 83, 3) := by decide +kernel
theorem dX12_init_199 : decode cX12_init 199 = .ok (.aload_n 0, 1) := by decide +kernel
theorem dX12_init_200 : decode cX12_init 200 = .ok (.sipush 9500, 3) := by decide +kernel
theorem dX12_init_203 : decode cX12_init 203 = .ok (.newarray .byte, 2) := by decide +kernel
theorem dX12_init_205 : decode cX12_init 205 = .ok (.putfield 86, 3) := by decide +kernel
theorem dX12_init_208 : decode cX12_init 208 = .ok (.aload_n 0, 1) := by decide +kernel
theorem dX12_init_209 : decode cX12_init 209 = .ok (.sipush 5700, 3) := by decide +kernel
theorem dX12_init_212 : decode cX12_init 212 = .ok (.newarray .int, 2) := by decide +kernel
theorem dX12_init_214 : decode cX12_init 214 = .ok (.putfield 89, 3) := by decide +kernel
theorem dX12_init_217 : decode cX12_init 217 = .ok (.aload_n 0, 1) := by decide +kernel
theorem dX12_init_218 : decode cX12_init 218 = .ok (.sipush 5700, 3) := by decide +kernel
theorem dX12_init_221 : decode cX12_init 221 = .ok (.newarray .int, 2) := by decide +kernel
theorem dX12_init_223 : decode cX12_init 223 = .ok (.putfield 92, 3) := by decide +kernel
theorem dX12_init_226 : decode cX12_init 226 = .ok (.aload_n 0, 1) := by decide +kernel
theorem dX12_init_227 : decode cX12_init 227 = .ok (.bipush 6, 2) := by decide +kernel
theorem dX12_init_229 : decode cX12_init 229 = .ok (.newarray .int, 2) := by decide +kernel
theorem dX12_init_231 : decode cX12_init 231 = .ok (.putfield 95, 3) := by decide +kernel
theorem dX12_init_234 : decode cX12_init 234 = .ok (.aload_n 0, 1) := by decide +kernel
theorem dX12_init_235 : decode cX12_init 235 = .ok (.sipush 950, 3) := by decide +kernel
theorem dX12_init_238 : decode cX12_init 238 = .ok (.newarray .int, 2) := by decide +kernel
theorem dX12_init_240 : decode cX12_init 240 = .ok (.putfield 98, 3) := by decide +kernel
theorem dX12_init_243 : decode cX12_init 243 = .ok (.aload_n 0, 1) := by decide +kernel
theorem dX12_init_244 : decode cX12_init 244 = .ok (.sipush 3800, 3) := by decide +kernel
theorem dX12_init_247 : decode cX12_init 247 = .ok (.newarray .long, 2) := by decide +kernel
theorem dX12_init_249 : decode cX12_init 249 = .ok (.putfield 101, 3) := by decide +kernel
theorem dX12_init_252 : decode cX12_init 252 = .ok (.aload_n 0, 1) := by decide +kernel
theorem dX12_init_253 : decode cX12_init 253 = .ok (.sipush 3800, 3) := by decide +kernel
theorem dX12_init_256 : decode cX12_init 256 = .ok (.newarray .long, 2) := by decide +kernel
theorem dX12_init_258 : decode cX12_init 258 = .ok (.putfield 104, 3) := by decide +kernel
theorem dX12_init_261 : decode cX12_init 261 = .ok (.aload_n 0, 1) := by decide +kernel
theorem dX12_init_262 : decode cX12_init 262 = .ok (.sipush 3800, 3) := by decide +kernel
theorem dX12_init_265 : decode cX12_init 265 = .ok (.newarray .boolean, 2) := by decide +kernel
theorem dX12_init_267 : decode cX12_init 267 = .ok (.putfield 107, 3) := by decide +kernel
theorem dX12_init_270 : decode cX12_init 270 = .ok (.aload_n 0, 1) := by decide +kernel
theorem dX12_init_271 : decode cX12_init 271 = .ok (.sipush 3800, 3) := by decide +kernel
theorem dX12_init_274 : decode cX12_init 274 = .ok (.newarray .int, 2) := by decide +kernel
theorem dX12_init_276 : decode cX12_init 276 = .ok (.putfield 110, 3) := by decide +kernel
theorem dX12_init_279 : decode cX12_init 279 = .ok (.aload_n 0, 1) := by decide +kernel
theorem dX12_init_280 : decode cX12_init 280 = .ok (.sipush 3800, 3) := by decide +kernel
theorem dX12_init_283 : decode cX12_init 283 = .ok (.newarray .int, 2) := by decide +kernel
theorem dX12_init_285 : decode cX12_init 285 = .ok (.putfield 113, 3) := by decide +kernel
theorem dX12_init_288 : decode cX12_init 288 = .ok (.aload_n 0, 1) := by decide +kernel
theorem dX12_init_289 : decode cX12_init 289 = .ok (.sipush 3800, 3) := by decide +kernel
theorem dX12_init_292 : decode cX12_init 292 = .ok (.newarray .int, 2) := by decide +kernel
theorem dX12_init_294 : decode cX12_init 294 = .ok (.putfield 116, 3) := by decide +kernel
theorem dX12_init_297 : decode cX12_init 297 = .ok (.aload_n 0, 1) := by decide +kernel
theorem dX12_init_298 : decode cX12_init 298 = .ok (.sipush 950, 3) := by decide +kernel
theorem dX12_init_301 : decode cX12_init 301 = .ok (.newarray .int, 2) := by decide +kernel
theorem dX12_init_303 : decode cX12_init 303 = .ok (.putfield 119, 3) := by decide +kernel
theorem dX12_init_306 : decode cX12_init 306 = .ok (.aload_n 0, 1) := by decide +kernel
theorem dX12_init_307 : decode cX12_init 307 = .ok (.sipush 950, 3) := by decide +kernel
theorem dX12_init_310 : decode cX12_init 310 = .ok (.newarray .int, 2) := by decide +kernel
theorem dX12_init_312 : decode cX12_init 312 = .ok (.putfield 122, 3) := by decide +kernel
theorem dX12_init_315 : decode cX12_init 315 = .ok (.aload_n 0, 1) := by decide +kernel
theorem dX12_init_316 : decode cX12_init 316 = .ok (.bipush 10, 2) := by decide +kernel
theorem dX12_init_318 : decode cX12_init 318 = .ok (.newarray .int, 2) := by decide +kernel
theorem dX12_init_320 : decode cX12_init 320 = .ok (.putfield 125, 3) := by decide +kernel
theorem dX12_init_323 : decode cX12_init 323 = .ok (.aload_n 0, 1) := by decide +kernel
theorem dX12_init_324 : decode cX12_init 324 = .ok (.bipush 10, 2) := by decide +kernel
theorem dX12_init_326 : decode cX12_init 326 = .ok (.newarray .int, 2) := by decide +kernel
theorem dX12_init_328 : decode cX12_init 328 = .ok (.putfield 128, 3) := by decide +kernel
theorem dX12_init_331 : decode cX12_init 331 = .ok (.aload_n 0, 1) := by decide +kernel
theorem dX12_init_332 : decode cX12_init 332 = .ok (.sipush 32000, 3) := by decide +kernel
theorem dX12_init_335 : decode cX12_init 335 = .ok (.newarray .byte, 2) := by decide +kernel
theorem dX12_init_337 : decode cX12_init 337 = .ok (.putfield 131, 3) := by decide +kernel
theorem dX12_init_340 : decode cX12_init 340 = .ok (.aload_n 0, 1) := by decide +kernel
theorem dX12_init_341 : decode cX12_init 341 = .ok (.bipush 16, 2) := by decide +kernel
theorem dX12_init_343 : decode cX12_init 343 = .ok (.newarray .int, 2) := by decide +kernel
theorem dX12_init_345 : decode cX12_init 345 = .ok (.putfield 134, 3) := by decide +kernel
theorem dX12_init_348 : decode cX12_init 348 = .ok (.aload_n 0, 1) := by decide +kernel
theorem dX12_init_349 : decode cX12_init 349 = .ok (.bipush 8, 2) := by decide +kernel
theorem dX12_init_351 : decode cX12_init 351 = .ok (.newarray .int, 2) := by decide +kernel
theorem dX12_init_353 : decode cX12_init 353 = .ok (.putfield 137, 3) := by decide +kernel
theorem dX12_init_356 : decode cX12_init 356 = .ok (.iconst 0, 1) := by decide +kernel
theorem dX12_init_357 : decode cX12_init 357 = .ok (.istore_n 1, 1) := by decide +kernel
theorem dX12_init_358 : decode cX12_init 358 = .ok (.iload_n 1, 1) := by decide +kernel
theorem dX12_init_359 : decode cX12_init 359 = .ok (.bipush 16, 2) := by decide +kernel
theorem dX12_init_361 : decode cX12_init 361 = .ok (.if_icmp .ge 16, 3) := by decide +kernel
theorem dX12_init_364 : decode cX12_init 364 = .ok (.aload_n 0, 1) := by decide +kernel
theorem dX12_init_365 : decode cX12_init 365 = .ok (.getfield 27, 3) := by decide +kernel
theorem dX12_init_368 : decode cX12_init 368 = .ok (.iload_n 1, 1) := by decide +kernel
theorem dX12_init_369 : decode cX12_init 369 = .ok (.iconst 1, 1) := by decide +kernel
theorem dX12_init_370 : decode cX12_init 370 = .ok (.iastore, 1) := by decide +kernel
theorem dX12_init_371 : decode cX12_init 371 = .ok (.iinc 1 1, 3) := by decide +kernel
theorem dX12_init_374 : decode cX12_init 374 = .ok (.goto (-16), 3) := by decide +kernel
theorem dX12_init_377 : decode cX12_init 377 = .ok (.return_, 1) := by decide +kernel
def f_X12_init (σ : ml_St) (Q : ml_St → Prop) : Prop :=
(∀ j : Int, σ 216 j = 0) ∧
∀ σ2, σ2 = ml_up σ 215 0 216 →
∀ σ3, σ3 = ml_up σ2 215 2 4 →
(∀ j : Int, σ3 217 j = 0) ∧
∀ σ5, σ5 = ml_up σ3 215 5 217 →
(∀ j : Int, σ5 218 j = 0) ∧
∀ σ7, σ7 = ml_up σ5 215 6 218 →
(∀ j : Int, σ7 219 j = 0) ∧
∀ σ9, σ9 = ml_up σ7 215 7 219 →
(∀ j : Int, σ9 220 j = 0) ∧
∀ σ11, σ11 = ml_up σ9 215 8 220 →
(∀ j : Int, σ11 221 j = 0) ∧
∀ σ13, σ13 = ml_up σ11 215 13 221 →
(∀ j : Int, σ13 222 j = 0) ∧
∀ σ15, σ15 = ml_up σ13 215 14 222 →
(∀ j : Int, σ15 223 j = 0) ∧
∀ σ17, σ17 = ml_up σ15 215 15 223 →
(∀ j : Int, σ17 224 j = 0) ∧
∀ σ19, σ19 = ml_up σ17 215 16 224 →
(∀ j : Int, σ19 225 j = 0) ∧
∀ σ21, σ21 = ml_up σ19 215 17 225 →
(∀ j : Int, σ21 226 j = 0) ∧
∀ σ23, σ23 = ml_up σ21 215 18 226 →
(∀ j : Int, σ23 227 j = 0) ∧
∀ σ25, σ25 = ml_up σ23 215 21 227 →
(∀ j : Int, σ25 228 j = 0) ∧
∀ σ27, σ27 = ml_up σ25 215 22 228 →
(∀ j : Int, σ27 229 j = 0) ∧
∀ σ29, σ29 = ml_up σ27 215 23 229 →
(∀ j : Int, σ29 230 j = 0) ∧
∀ σ31, σ31 = ml_up σ29 215 24 230 →
(∀ j : Int, σ31 231 j = 0) ∧
∀ σ33, σ33 = ml_up σ31 215 25 231 →
(∀ j : Int, σ33 232 j = 0) ∧
∀ σ35, σ35 = ml_up σ33 215 26 232 →
(∀ j : Int, σ35 233 j = 0) ∧
∀ σ37, σ37 = ml_up σ35 215 28 233 →
(∀ j : Int, σ37 234 j = 0) ∧
∀ σ39, σ39 = ml_up σ37 215 29 234 →
(∀ j : Int, σ39 235 j = 0) ∧
∀ σ41, σ41 = ml_up σ39 215 30 235 →
(∀ j : Int, σ41 236 j = 0) ∧
∀ σ43, σ43 = ml_up σ41 215 31 236 →
(∀ j : Int, σ43 237 j = 0) ∧
∀ σ45, σ45 = ml_up σ43 215 40 237 →
(∀ j : Int, σ45 238 j = 0) ∧
∀ σ47, σ47 = ml_up σ45 215 41 238 →
(∀ j : Int, σ47 239 j = 0) ∧
∀ σ49, σ49 = ml_up σ47 215 42 239 →
(∀ j : Int, σ49 240 j = 0) ∧
∀ σ51, σ51 = ml_up σ49 215 43 240 →
(∀ j : Int, σ51 241 j = 0) ∧
∀ σ53, σ53 = ml_up σ51 215 44 241 →
(∀ j : Int, σ53 242 j = 0) ∧
∀ σ55, σ55 = ml_up σ53 215 45 242 →
(∀ j : Int, σ55 243 j = 0) ∧
∀ σ57, σ57 = ml_up σ55 215 46 243 →
(∀ j : Int, σ57 244 j = 0) ∧
∀ σ59, σ59 = ml_up σ57 215 47 244 →
(∀ j : Int, σ59 245 j = 0) ∧
∀ σ61, σ61 = ml_up σ59 215 48 245 →
(∀ j : Int, σ61 246 j = 0) ∧
∀ σ63, σ63 = ml_up σ61 215 49 246 →
(∀ j : Int, σ63 247 j = 0) ∧
∀ σ65, σ65 = ml_up σ63 215 50 247 →
(∀ j : Int, σ65 248 j = 0) ∧
∀ σ67, σ67 = ml_up σ65 215 51 248 →
(∀ j : Int, σ67 249 j = 0) ∧
∀ σ69, σ69 = ml_up σ67 215 52 249 →
(∀ j : Int, σ69 250 j = 0) ∧
∀ σ71, σ71 = ml_up σ69 215 54 250 →
(∀ j : Int, σ71 251 j = 0) ∧
∀ σ73, σ73 = ml_up σ71 215 55 251 →
(∀ j : Int, σ73 252 j = 0) ∧
∀ σ75, σ75 = ml_up σ73 215 56 252 →
(∀ j : Int, σ75 253 j = 0) ∧
∀ σ77, σ77 = ml_up σ75 215 57 253 →
(∀ j : Int, σ77 254 j = 0) ∧
∀ σ79, σ79 = ml_up σ77 215 58 254 →
(∀ j : Int, σ79 255 j = 0) ∧
∀ σ81, σ81 = ml_up σ79 215 59 255 →
(∀ j : Int, σ81 256 j = 0) ∧
∀ σ83, σ83 = ml_up σ81 215 60 256 →
σ83 215 8 = 220 ∧
∀ σ86, σ86 = ml_up σ83 220 0 1 →
σ86 215 8 = 220 ∧
∀ σ89, σ89 = ml_up σ86 220 1 1 →
σ89 215 8 = 220 ∧
∀ σ92, σ92 = ml_up σ89 220 2 1 →
σ92 215 8 = 220 ∧
∀ σ95, σ95 = ml_up σ92 220 3 1 →
σ95 215 8 = 220 ∧
∀ σ98, σ98 = ml_up σ95 220 4 1 →
σ98 215 8 = 220 ∧
∀ σ101, σ101 = ml_up σ98 220 5 1 →
σ101 215 8 = 220 ∧
∀ σ104, σ104 = ml_up σ101 220 6 1 →
σ104 215 8 = 220 ∧
∀ σ107, σ107 = ml_up σ104 220 7 1 →
σ107 215 8 = 220 ∧
∀ σ110, σ110 = ml_up σ107 220 8 1 →
σ110 215 8 = 220 ∧
∀ σ113, σ113 = ml_up σ110 220 9 1 →
σ113 215 8 = 220 ∧
∀ σ116, σ116 = ml_up σ113 220 10 1 →
σ116 215 8 = 220 ∧
∀ σ119, σ119 = ml_up σ116 220 11 1 →
σ119 215 8 = 220 ∧
∀ σ122, σ122 = ml_up σ119 220 12 1 →
σ122 215 8 = 220 ∧
∀ σ125, σ125 = ml_up σ122 220 13 1 →
σ125 215 8 = 220 ∧
∀ σ128, σ128 = ml_up σ125 220 14 1 →
σ128 215 8 = 220 ∧
∀ σ131, σ131 = ml_up σ128 220 15 1 →
Q σ131
def rm_X12_init : Room := { frames := 1, cells := 41, slots := 86949, locals := 60 }
set_option maxRecDepth 100000 in
set_option maxHeartbeats 4000000 in
theorem c_X12_init (l : Launch) (base : Nat) (D : va_G) (cA : Nat → ClassId) (σ : ml_St) (Q : ml_St → Prop) (hw : f_X12_init σ Q) : Met l yX12_init (Cond.code yX12_init cX12_init 2 none :: ml_T) rm_X12_init (va_Pc [.ref (base + (215 : Int).toNat)] (ml_UC base D cA 215 σ)) (ml_QC base D cA (215 + 41) Q) 41 86949 (ml_A base) := by
  refine Met.ofW (cc := cX12_init) (maxL := 2) (ret := none) (by decide) rfl ?_
  intro p e s m args below meth c s₁ B hml hv
  obtain ⟨rfl, ⟨hP, hK, hok⟩, hs, hNN⟩ := hv
  have hini : meth.name = "<init>" := (name_of_methodNamed B.named B.method).1
  have X : ml_X p s m c meth _ D cA cX12_init 2 RX12 none := ⟨B.exec, B.bytes, hml, findClass_of_methodNamed B.named, fun w hw => atoms_spec (ws := Cond.code yX12_init cX12_init 2 none :: ml_T) B.pre w (List.mem_cons_of_mem _ hw), hK, B.notSynchronized, B.returns⟩
  have hl := lv_entry [.ref (base + (215 : Int).toNat)] (n := 2) (Nat.le_of_ble_eq_true rfl)
  rw [lg_entry_eq]
  generalize (lg_sl [.ref (base + (215 : Int).toNat)] ++ List.replicate (2 - (lg_sl [.ref (base + (215 : Int).toNat)]).length) Slot.unset).toArray = ls at hl ⊢
  have hl : lv_has ls 2 [(0, .ref (base + (215 : Int).toNat))] := hl
  unfold f_X12_init at hw
  suffices hV : ml_V p l e rm_X12_init s m [.ref (base + (215 : Int).toNat)].toArray below meth c (MQ below (ml_QC base D cA (215 + 41) Q) [.ref (base + (215 : Int).toNat)].toArray s 41 86949 (ml_A base)) base D cA 0 0 0 (215 + 0) σ (F0 m 0 ls []) from hV s.heap [] hP va_S.rf hok ml_RO0
  refine ml_aload_n (pc := 0) X hl 0 rfl rfl dX12_init_0 ?_
  refine ml_objInit (pc := 1) X ⟨tw_4_190, tw_1_24, tw_1_25⟩ hl ⟨by decide, by decide⟩ (Nat.le_of_ble_eq_true rfl) dX12_init_1 ?_
  refine ml_aload_n (pc := 4) X hl 0 rfl rfl dX12_init_4 ?_
  refine ml_sipush (pc := 5) X dX12_init_5 (by decide) ?_
  obtain ⟨z1, hw⟩ := hw
  refine ml_newA (n0 := 215) (kc := 0) (ks := 0) (pc := 8) (k := 216) X hs .byte .byte 2 200 tw_1_85 rfl rfl (fun _ _ h => h) (200, .inl (fun _ => 0)) (fun _ => rfl) (by omega) (by omega) (by decide +kernel) (fun f hf => by show _ = _; unfold ml_cell; simp only [hf]; rfl) z1 (by decide) (by decide) ⟨by decide, by decide⟩ dX12_init_8 ?_
  refine ml_putF (pc := 10) (x := 216) (k := 215) X hini in_X12 rfl (by decide) tk_X12 nmX12 0 (by decide) rfl rfl tw_4_191 (ml_k215 (by decide)) dX12_init_10 (ml_fvA (by omega)) (show (0 : Int) ≤ 216 by omega) rfl rfl (Or.inl (by omega)) (fun σ2 g2 => ?_)
  have hw := hw σ2 g2
  refine ml_aload_n (pc := 13) X hl 0 rfl rfl dX12_init_13 ?_
  refine ml_iconst (pc := 14) X dX12_init_14 ?_
  refine ml_putg (pc := 15) (x := 4) (k := 215) X in_X12 rfl (by decide) tk_X12 nmX12 2 (by decide) rfl tw_4_193 (ml_k215 (by decide)) dX12_init_15 rfl ⟨by decide, by decide⟩ rfl rfl (Or.inl (by omega)) (fun σ3 g3 => ?_)
  have hw := hw σ3 g3
  refine ml_aload_n (pc := 18) X hl 0 rfl rfl dX12_init_18 ?_
  refine ml_bipush (pc := 19) X dX12_init_19 (by decide) ?_
  obtain ⟨z4, hw⟩ := hw
  refine ml_newA (n0 := 215) (kc := 1) (ks := 200) (pc := 21) (k := 217) X hs .int .int 1 10 tw_1_42 rfl rfl (fun _ _ h => h) (10, .inl (fun _ => 0)) (fun _ => rfl) (by omega) (by omega) (by decide +kernel) (fun f hf => by show _ = _; unfold ml_cell; simp only [hf]; rfl) z4 (by decide) (by decide) ⟨by decide, by decide⟩ dX12_init_21 ?_
  refine ml_putF (pc := 23) (x := 217) (k := 215) X hini in_X12 rfl (by decide) tk_X12 nmX12 5 (by decide) rfl rfl tw_4_196 (ml_k215 (by decide)) dX12_init_23 (ml_fvA (by omega)) (show (0 : Int) ≤ 217 by omega) rfl rfl (Or.inl (by omega)) (fun σ5 g5 => ?_)
  have hw := hw σ5 g5
  refine ml_aload_n (pc := 26) X hl 0 rfl rfl dX12_init_26 ?_
  refine ml_sipush (pc := 27) X dX12_init_27 (by decide) ?_
  obtain ⟨z6, hw⟩ := hw
  refine ml_newA (n0 := 215) (kc := 2) (ks := 210) (pc := 30) (k := 218) X hs .byte .byte 2 1600 tw_1_85 rfl rfl (fun _ _ h => h) (1600, .inl (fun _ => 0)) (fun _ => rfl) (by omega) (by omega) (by decide +kernel) (fun f hf => by show _ = _; unfold ml_cell; simp only [hf]; rfl) z6 (by decide) (by decide) ⟨by decide, by decide⟩ dX12_init_30 ?_
  refine ml_putF (pc := 32) (x := 218) (k := 215) X hini in_X12 rfl (by decide) tk_X12 nmX12 6 (by decide) rfl rfl tw_4_197 (ml_k215 (by decide)) dX12_init_32 (ml_fvA (by omega)) (show (0 : Int) ≤ 218 by omega) rfl rfl (Or.inl (by omega)) (fun σ7 g7 => ?_)
  have hw := hw σ7 g7
  refine ml_aload_n (pc := 35) X hl 0 rfl rfl dX12_init_35 ?_
  refine ml_bipush (pc := 36) X dX12_init_36 (by decide) ?_
  obtain ⟨z8, hw⟩ := hw
  refine ml_newA (n0 := 215) (kc := 3) (ks := 1810) (pc := 38) (k := 219) X hs .int .int 1 16 tw_1_42 rfl rfl (fun _ _ h => h) (16, .inl (fun _ => 0)) (fun _ => rfl) (by omega) (by omega) (by decide +kernel) (fun f hf => by show _ = _; unfold ml_cell; simp only [hf]; rfl) z8 (by decide) (by decide) ⟨by decide, by decide⟩ dX12_init_38 ?_
  refine ml_putF (pc := 40) (x := 219) (k := 215) X hini in_X12 rfl (by decide) tk_X12 nmX12 7 (by decide) rfl rfl tw_4_198 (ml_k215 (by decide)) dX12_init_40 (ml_fvA (by omega)) (show (0 : Int) ≤ 219 by omega) rfl rfl (Or.inl (by omega)) (fun σ9 g9 => ?_)
  have hw := hw σ9 g9
  refine ml_aload_n (pc := 43) X hl 0 rfl rfl dX12_init_43 ?_
  refine ml_bipush (pc := 44) X dX12_init_44 (by decide) ?_
  obtain ⟨z10, hw⟩ := hw
  refine ml_newA (n0 := 215) (kc := 4) (ks := 1826) (pc := 46) (k := 220) X hs .int .int 1 16 tw_1_42 rfl rfl (fun _ _ h => h) (16, .inl (fun _ => 0)) (fun _ => rfl) (by omega) (by omega) (by decide +kernel) (fun f hf => by show _ = _; unfold ml_cell; simp only [hf]; rfl) z10 (by decide) (by decide) ⟨by decide, by decide⟩ dX12_init_46 ?_
  refine ml_putF (pc := 48) (x := 220) (k := 215) X hini in_X12 rfl (by decide) tk_X12 nmX12 8 (by decide) rfl rfl tw_4_199 (ml_k215 (by decide)) dX12_init_48 (ml_fvA (by omega)) (show (0 : Int) ≤ 220 by omega) rfl rfl (Or.inl (by omega)) (fun σ11 g11 => ?_)
  have hw := hw σ11 g11
  refine ml_aload_n (pc := 51) X hl 0 rfl rfl dX12_init_51 ?_
  refine ml_bipush (pc := 52) X dX12_init_52 (by decide) ?_
  obtain ⟨z12, hw⟩ := hw
  refine ml_newA (n0 := 215) (kc := 5) (ks := 1842) (pc := 54) (k := 221) X hs .long .long 4 16 tw_1_165 rfl rfl (fun _ _ h => h) (16, .inr (.inl (fun _ => 0))) (fun _ => rfl) (by omega) (by omega) (by decide +kernel) (fun f hf => by show _ = _; unfold ml_cell; simp only [hf]; rfl) z12 (by decide) (by decide) ⟨by decide, by decide⟩ dX12_init_54 ?_
  refine ml_putF (pc := 56) (x := 221) (k := 215) X hini in_X12 rfl (by decide) tk_X12 nmX12 13 (by decide) rfl rfl tw_4_204 (ml_k215 (by decide)) dX12_init_56 (ml_fvA (by omega)) (show (0 : Int) ≤ 221 by omega) rfl rfl (Or.inl (by omega)) (fun σ13 g13 => ?_)
  have hw := hw σ13 g13
  refine ml_aload_n (pc := 59) X hl 0 rfl rfl dX12_init_59 ?_
  refine ml_bipush (pc := 60) X dX12_init_60 (by decide) ?_
  obtain ⟨z14, hw⟩ := hw
  refine ml_newA (n0 := 215) (kc := 6) (ks := 1858) (pc := 62) (k := 222) X hs .long .long 4 16 tw_1_165 rfl rfl (fun _ _ h => h) (16, .inr (.inl (fun _ => 0))) (fun _ => rfl) (by omega) (by omega) (by decide +kernel) (fun f hf => by show _ = _; unfold ml_cell; simp only [hf]; rfl) z14 (by decide) (by decide) ⟨by decide, by decide⟩ dX12_init_62 ?_
  refine ml_putF (pc := 64) (x := 222) (k := 215) X hini in_X12 rfl (by decide) tk_X12 nmX12 14 (by decide) rfl rfl tw_4_205 (ml_k215 (by decide)) dX12_init_64 (ml_fvA (by omega)) (show (0 : Int) ≤ 222 by omega) rfl rfl (Or.inl (by omega)) (fun σ15 g15 => ?_)
  have hw := hw σ15 g15
  refine ml_aload_n (pc := 67) X hl 0 rfl rfl dX12_init_67 ?_
  refine ml_bipush (pc := 68) X dX12_init_68 (by decide) ?_
  obtain ⟨z16, hw⟩ := hw
  refine ml_newA (n0 := 215) (kc := 7) (ks := 1874) (pc := 70) (k := 223) X hs .long .long 4 8 tw_1_165 rfl rfl (fun _ _ h => h) (8, .inr (.inl (fun _ => 0))) (fun _ => rfl) (by omega) (by omega) (by decide +kernel) (fun f hf => by show _ = _; unfold ml_cell; simp only [hf]; rfl) z16 (by decide) (by decide) ⟨by decide, by decide⟩ dX12_init_70 ?_
  refine ml_putF (pc := 72) (x := 223) (k := 215) X hini in_X12 rfl (by decide) tk_X12 nmX12 15 (by decide) rfl rfl tw_4_206 (ml_k215 (by decide)) dX12_init_72 (ml_fvA (by omega)) (show (0 : Int) ≤ 223 by omega) rfl rfl (Or.inl (by omega)) (fun σ17 g17 => ?_)
  have hw := hw σ17 g17
  refine ml_aload_n (pc := 75) X hl 0 rfl rfl dX12_init_75 ?_
  refine ml_bipush (pc := 76) X dX12_init_76 (by decide) ?_
  obtain ⟨z18, hw⟩ := hw
  refine ml_newA (n0 := 215) (kc := 8) (ks := 1882) (pc := 78) (k := 224) X hs .long .long 4 8 tw_1_165 rfl rfl (fun _ _ h => h) (8, .inr (.inl (fun _ => 0))) (fun _ => rfl) (by omega) (by omega) (by decide +kernel) (fun f hf => by show _ = _; unfold ml_cell; simp only [hf]; rfl) z18 (by decide) (by decide) ⟨by decide, by decide⟩ dX12_init_78 ?_
  refine ml_putF (pc := 80) (x := 224) (k := 215) X hini in_X12 rfl (by decide) tk_X12 nmX12 16 (by decide) rfl rfl tw_4_207 (ml_k215 (by decide)) dX12_init_80 (ml_fvA (by omega)) (show (0 : Int) ≤ 224 by omega) rfl rfl (Or.inl (by omega)) (fun σ19 g19 => ?_)
  have hw := hw σ19 g19
  refine ml_aload_n (pc := 83) X hl 0 rfl rfl dX12_init_83 ?_
  refine ml_bipush (pc := 84) X dX12_init_84 (by decide) ?_
  obtain ⟨z20, hw⟩ := hw
  refine ml_newA (n0 := 215) (kc := 9) (ks := 1890) (pc := 86) (k := 225) X hs .long .long 4 8 tw_1_165 rfl rfl (fun _ _ h => h) (8, .inr (.inl (fun _ => 0))) (fun _ => rfl) (by omega) (by omega) (by decide +kernel) (fun f hf => by show _ = _; unfold ml_cell; simp only [hf]; rfl) z20 (by decide) (by decide) ⟨by decide, by decide⟩ dX12_init_86 ?_
  refine ml_putF (pc := 88) (x := 225) (k := 215) X hini in_X12 rfl (by decide) tk_X12 nmX12 17 (by decide) rfl rfl tw_4_208 (ml_k215 (by decide)) dX12_init_88 (ml_fvA (by omega)) (show (0 : Int) ≤ 225 by omega) rfl rfl (Or.inl (by omega)) (fun σ21 g21 => ?_)
  have hw := hw σ21 g21
  refine ml_aload_n (pc := 91) X hl 0 rfl rfl dX12_init_91 ?_
  refine ml_bipush (pc := 92) X dX12_init_92 (by decide) ?_
  obtain ⟨z22, hw⟩ := hw
  refine ml_newA (n0 := 215) (kc := 10) (ks := 1898) (pc := 94) (k := 226) X hs .long .long 4 8 tw_1_165 rfl rfl (fun _ _ h => h) (8, .inr (.inl (fun _ => 0))) (fun _ => rfl) (by omega) (by omega) (by decide +kernel) (fun f hf => by show _ = _; unfold ml_cell; simp only [hf]; rfl) z22 (by decide) (by decide) ⟨by decide, by decide⟩ dX12_init_94 ?_
  refine ml_putF (pc := 96) (x := 226) (k := 215) X hini in_X12 rfl (by decide) tk_X12 nmX12 18 (by decide) rfl rfl tw_4_209 (ml_k215 (by decide)) dX12_init_96 (ml_fvA (by omega)) (show (0 : Int) ≤ 226 by omega) rfl rfl (Or.inl (by omega)) (fun σ23 g23 => ?_)
  have hw := hw σ23 g23
  refine ml_aload_n (pc := 99) X hl 0 rfl rfl dX12_init_99 ?_
  refine ml_sipush (pc := 100) X dX12_init_100 (by decide) ?_
  obtain ⟨z24, hw⟩ := hw
  refine ml_newA (n0 := 215) (kc := 11) (ks := 1906) (pc := 103) (k := 227) X hs .int .int 1 640 tw_1_42 rfl rfl (fun _ _ h => h) (640, .inl (fun _ => 0)) (fun _ => rfl) (by omega) (by omega) (by decide +kernel) (fun f hf => by show _ = _; unfold ml_cell; simp only [hf]; rfl) z24 (by decide) (by decide) ⟨by decide, by decide⟩ dX12_init_103 ?_
  refine ml_putF (pc := 105) (x := 227) (k := 215) X hini in_X12 rfl (by decide) tk_X12 nmX12 21 (by decide) rfl rfl tw_4_212 (ml_k215 (by decide)) dX12_init_105 (ml_fvA (by omega)) (show (0 : Int) ≤ 227 by omega) rfl rfl (Or.inl (by omega)) (fun σ25 g25 => ?_)
  have hw := hw σ25 g25
  refine ml_aload_n (pc := 108) X hl 0 rfl rfl dX12_init_108 ?_
  refine ml_sipush (pc := 109) X dX12_init_109 (by decide) ?_
  obtain ⟨z26, hw⟩ := hw
  refine ml_newA (n0 := 215) (kc := 12) (ks := 2546) (pc := 112) (k := 228) X hs .long .long 4 640 tw_1_165 rfl rfl (fun _ _ h => h) (640, .inr (.inl (fun _ => 0))) (fun _ => rfl) (by omega) (by omega) (by decide +kernel) (fun f hf => by show _ = _; unfold ml_cell; simp only [hf]; rfl) z26 (by decide) (by decide) ⟨by decide, by decide⟩ dX12_init_112 ?_
  refine ml_putF (pc := 114) (x := 228) (k := 215) X hini in_X12 rfl (by decide) tk_X12 nmX12 22 (by decide) rfl rfl tw_4_213 (ml_k215 (by decide)) dX12_init_114 (ml_fvA (by omega)) (show (0 : Int) ≤ 228 by omega) rfl rfl (Or.inl (by omega)) (fun σ27 g27 => ?_)
  have hw := hw σ27 g27
  refine ml_aload_n (pc := 117) X hl 0 rfl rfl dX12_init_117 ?_
  refine ml_bipush (pc := 118) X dX12_init_118 (by decide) ?_
  obtain ⟨z28, hw⟩ := hw
  refine ml_newA (n0 := 215) (kc := 13) (ks := 3186) (pc := 120) (k := 229) X hs .long .long 4 64 tw_1_165 rfl rfl (fun _ _ h => h) (64, .inr (.inl (fun _ => 0))) (fun _ => rfl) (by omega) (by omega) (by decide +kernel) (fun f hf => by show _ = _; unfold ml_cell; simp only [hf]; rfl) z28 (by decide) (by decide) ⟨by decide, by decide⟩ dX12_init_120 ?_
  refine ml_putF (pc := 122) (x := 229) (k := 215) X hini in_X12 rfl (by decide) tk_X12 nmX12 23 (by decide) rfl rfl tw_4_214 (ml_k215 (by decide)) dX12_init_122 (ml_fvA (by omega)) (show (0 : Int) ≤ 229 by omega) rfl rfl (Or.inl (by omega)) (fun σ29 g29 => ?_)
  have hw := hw σ29 g29
  refine ml_aload_n (pc := 125) X hl 0 rfl rfl dX12_init_125 ?_
  refine ml_bipush (pc := 126) X dX12_init_126 (by decide) ?_
  obtain ⟨z30, hw⟩ := hw
  refine ml_newA (n0 := 215) (kc := 14) (ks := 3250) (pc := 128) (k := 230) X hs .long .long 4 64 tw_1_165 rfl rfl (fun _ _ h => h) (64, .inr (.inl (fun _ => 0))) (fun _ => rfl) (by omega) (by omega) (by decide +kernel) (fun f hf => by show _ = _; unfold ml_cell; simp only [hf]; rfl) z30 (by decide) (by decide) ⟨by decide, by decide⟩ dX12_init_128 ?_
  refine ml_putF (pc := 130) (x := 230) (k := 215) X hini in_X12 rfl (by decide) tk_X12 nmX12 24 (by decide) rfl rfl tw_4_215 (ml_k215 (by decide)) dX12_init_130 (ml_fvA (by omega)) (show (0 : Int) ≤ 230 by omega) rfl rfl (Or.inl (by omega)) (fun σ31 g31 => ?_)
  have hw := hw σ31 g31
  refine ml_aload_n (pc := 133) X hl 0 rfl rfl dX12_init_133 ?_
  refine ml_bipush (pc := 134) X dX12_init_134 (by decide) ?_
  obtain ⟨z32, hw⟩ := hw
  refine ml_newA (n0 := 215) (kc := 15) (ks := 3314) (pc := 136) (k := 231) X hs .long .long 4 64 tw_1_165 rfl rfl (fun _ _ h => h) (64, .inr (.inl (fun _ => 0))) (fun _ => rfl) (by omega) (by omega) (by decide +kernel) (fun f hf => by show _ = _; unfold ml_cell; simp only [hf]; rfl) z32 (by decide) (by decide) ⟨by decide, by decide⟩ dX12_init_136 ?_
  refine ml_putF (pc := 138) (x := 231) (k := 215) X hini in_X12 rfl (by decide) tk_X12 nmX12 25 (by decide) rfl rfl tw_4_216 (ml_k215 (by decide)) dX12_init_138 (ml_fvA (by omega)) (show (0 : Int) ≤ 231 by omega) rfl rfl (Or.inl (by omega)) (fun σ33 g33 => ?_)
  have hw := hw σ33 g33
  refine ml_aload_n (pc := 141) X hl 0 rfl rfl dX12_init_141 ?_
  refine ml_iconst (pc := 142) X dX12_init_142 ?_
  obtain ⟨z34, hw⟩ := hw
  refine ml_newA (n0 := 215) (kc := 16) (ks := 3378) (pc := 143) (k := 232) X hs .boolean .boolean 3 5 tw_5_138 rfl rfl (fun _ _ h => h) (5, .inl (fun _ => 0)) (fun _ => rfl) (by omega) (by omega) (by decide +kernel) (fun f hf => by show _ = _; unfold ml_cell; simp only [hf]; rfl) z34 (by decide) (by decide) ⟨by decide, by decide⟩ dX12_init_143 ?_
  refine ml_putF (pc := 145) (x := 232) (k := 215) X hini in_X12 rfl (by decide) tk_X12 nmX12 26 (by decide) rfl rfl tw_4_217 (ml_k215 (by decide)) dX12_init_145 (ml_fvA (by omega)) (show (0 : Int) ≤ 232 by omega) rfl rfl (Or.inl (by omega)) (fun σ35 g35 => ?_)
  have hw := hw σ35 g35
  refine ml_aload_n (pc := 148) X hl 0 rfl rfl dX12_init_148 ?_
  refine ml_bipush (pc := 149) X dX12_init_149 (by decide) ?_
  obtain ⟨z36, hw⟩ := hw
  refine ml_newA (n0 := 215) (kc := 17) (ks := 3383) (pc := 151) (k := 233) X hs .byte .byte 2 100 tw_1_85 rfl rfl (fun _ _ h => h) (100, .inl (fun _ => 0)) (fun _ => rfl) (by omega) (by omega) (by decide +kernel) (fun f hf => by show _ = _; unfold ml_cell; simp only [hf]; rfl) z36 (by decide) (by decide) ⟨by decide, by decide⟩ dX12_init_151 ?_
  refine ml_putF (pc := 153) (x := 233) (k := 215) X hini in_X12 rfl (by decide) tk_X12 nmX12 28 (by decide) rfl rfl tw_4_219 (ml_k215 (by decide)) dX12_init_153 (ml_fvA (by omega)) (show (0 : Int) ≤ 233 by omega) rfl rfl (Or.inl (by omega)) (fun σ37 g37 => ?_)
  have hw := hw σ37 g37
  refine ml_aload_n (pc := 156) X hl 0 rfl rfl dX12_init_156 ?_
  refine ml_bipush (pc := 157) X dX12_init_157 (by decide) ?_
  obtain ⟨z38, hw⟩ := hw
  refine ml_newA (n0 := 215) (kc := 18) (ks := 3483) (pc := 159) (k := 234) X hs .boolean .boolean 3 10 tw_5_138 rfl rfl (fun _ _ h => h) (10, .inl (fun _ => 0)) (fun _ => rfl) (by omega) (by omega) (by decide +kernel) (fun f hf => by show _ = _; unfold ml_cell; simp only [hf]; rfl) z38 (by decide) (by decide) ⟨by decide, by decide⟩ dX12_init_159 ?_
  refine ml_putF (pc := 161) (x := 234) (k := 215) X hini in_X12 rfl (by decide) tk_X12 nmX12 29 (by decide) rfl rfl tw_4_220 (ml_k215 (by decide)) dX12_init_161 (ml_fvA (by omega)) (show (0 : Int) ≤ 234 by omega) rfl rfl (Or.inl (by omega)) (fun σ39 g39 => ?_)
  have hw := hw σ39 g39
  refine ml_aload_n (pc := 164) X hl 0 rfl rfl dX12_init_164 ?_
  refine ml_sipush (pc := 165) X dX12_init_165 (by decide) ?_
  obtain ⟨z40, hw⟩ := hw
  refine ml_newA (n0 := 215) (kc := 19) (ks := 3493) (pc := 168) (k := 235) X hs .long .long 4 1000 tw_1_165 rfl rfl (fun _ _ h => h) (1000, .inr (.inl (fun _ => 0))) (fun _ => rfl) (by omega) (by omega) (by decide +kernel) (fun f hf => by show _ = _; unfold ml_cell; simp only [hf]; rfl) z40 (by decide) (by decide) ⟨by decide, by decide⟩ dX12_init_168 ?_
  refine ml_putF (pc := 170) (x := 235) (k := 215) X hini in_X12 rfl (by decide) tk_X12 nmX12 30 (by decide) rfl rfl tw_4_221 (ml_k215 (by decide)) dX12_init_170 (ml_fvA (by omega)) (show (0 : Int) ≤ 235 by omega) rfl rfl (Or.inl (by omega)) (fun σ41 g41 => ?_)
  have hw := hw σ41 g41
  refine ml_aload_n (pc := 173) X hl 0 rfl rfl dX12_init_173 ?_
  refine ml_sipush (pc := 174) X dX12_init_174 (by decide) ?_
  obtain ⟨z42, hw⟩ := hw
  refine ml_newA (n0 := 215) (kc := 20) (ks := 4493) (pc := 177) (k := 236) X hs .long .long 4 2900 tw_1_165 rfl rfl (fun _ _ h => h) (2900, .inr (.inl (fun _ => 0))) (fun _ => rfl) (by omega) (by omega) (by decide +kernel) (fun f hf => by show _ = _; unfold ml_cell; simp only [hf]; rfl) z42 (by decide) (by decide) ⟨by decide, by decide⟩ dX12_init_177 ?_
  refine ml_putF (pc := 179) (x := 236) (k := 215) X hini in_X12 rfl (by decide) tk_X12 nmX12 31 (by decide) rfl rfl tw_4_222 (ml_k215 (by decide)) dX12_init_179 (ml_fvA (by omega)) (show (0 : Int) ≤ 236 by omega) rfl rfl (Or.inl (by omega)) (fun σ43 g43 => ?_)
  have hw := hw σ43 g43
  refine ml_aload_n (pc := 182) X hl 0 rfl rfl dX12_init_182 ?_
  refine ml_bipush (pc := 183) X dX12_init_183 (by decide) ?_
  obtain ⟨z44, hw⟩ := hw
  refine ml_newA (n0 := 215) (kc := 21) (ks := 7393) (pc := 185) (k := 237) X hs .int .int 1 6 tw_1_42 rfl rfl (fun _ _ h => h) (6, .inl (fun _ => 0)) (fun _ => rfl) (by omega) (by omega) (by decide +kernel) (fun f hf => by show _ = _; unfold ml_cell; simp only [hf]; rfl) z44 (by decide) (by decide) ⟨by decide, by decide⟩ dX12_init_185 ?_
  refine ml_putF (pc := 187) (x := 237) (k := 215) X hini in_X12 rfl (by decide) tk_X12 nmX12 40 (by decide) rfl rfl tw_4_231 (ml_k215 (by decide)) dX12_init_187 (ml_fvA (by omega)) (show (0 : Int) ≤ 237 by omega) rfl rfl (Or.inl (by omega)) (fun σ45 g45 => ?_)
  have hw := hw σ45 g45
  refine ml_aload_n (pc := 190) X hl 0 rfl rfl dX12_init_190 ?_
  refine ml_sipush (pc := 191) X dX12_init_191 (by decide) ?_
  obtain ⟨z46, hw⟩ := hw
  refine ml_newA (n0 := 215) (kc := 22) (ks := 7399) (pc := 194) (k := 238) X hs .long .long 4 950 tw_1_165 rfl rfl (fun _ _ h => h) (950, .inr (.inl (fun _ => 0))) (fun _ => rfl) (by omega) (by omega) (by decide +kernel) (fun f hf => by show _ = _; unfold ml_cell; simp only [hf]; rfl) z46 (by decide) (by decide) ⟨by decide, by decide⟩ dX12_init_194 ?_
  refine ml_putF (pc := 196) (x := 238) (k := 215) X hini in_X12 rfl (by decide) tk_X12 nmX12 41 (by decide) rfl rfl tw_4_232 (ml_k215 (by decide)) dX12_init_196 (ml_fvA (by omega)) (show (0 : Int) ≤ 238 by omega) rfl rfl (Or.inl (by omega)) (fun σ47 g47 => ?_)
  have hw := hw σ47 g47
  refine ml_aload_n (pc := 199) X hl 0 rfl rfl dX12_init_199 ?_
  refine ml_sipush (pc := 200) X dX12_init_200 (by decide) ?_
  obtain ⟨z48, hw⟩ := hw
  refine ml_newA (n0 := 215) (kc := 23) (ks := 8349) (pc := 203) (k := 239) X hs .byte .byte 2 9500 tw_1_85 rfl rfl (fun _ _ h => h) (9500, .inl (fun _ => 0)) (fun _ => rfl) (by omega) (by omega) (by decide +kernel) (fun f hf => by show _ = _; unfold ml_cell; simp only [hf]; rfl) z48 (by decide) (by decide) ⟨by decide, by decide⟩ dX12_init_203 ?_
  refine ml_putF (pc := 205) (x := 239) (k := 215) X hini in_X12 rfl (by decide) tk_X12 nmX12 42 (by decide) rfl rfl tw_4_233 (ml_k215 (by decide)) dX12_init_205 (ml_fvA (by omega)) (show (0 : Int) ≤ 239 by omega) rfl rfl (Or.inl (by omega)) (fun σ49 g49 => ?_)
  have hw := hw σ49 g49
  refine ml_aload_n (pc := 208) X hl 0 rfl rfl dX12_init_208 ?_
  refine ml_sipush (pc := 209) X dX12_init_209 (by decide) ?_
  obtain ⟨z50, hw⟩ := hw
  refine ml_newA (n0 := 215) (kc := 24) (ks := 17849) (pc := 212) (k := 240) X hs .int .int 1 5700 tw_1_42 rfl rfl (fun _ _ h => h) (5700, .inl (fun _ => 0)) (fun _ => rfl) (by omega) (by omega) (by decide +kernel) (fun f hf => by show _ = _; unfold ml_cell; simp only [hf]; rfl) z50 (by decide) (by decide) ⟨by decide, by decide⟩ dX12_init_212 ?_
  refine ml_putF (pc := 214) (x := 240) (k := 215) X hini in_X12 rfl (by decide) tk_X12 nmX12 43 (by decide) rfl rfl tw_4_234 (ml_k215 (by decide)) dX12_init_214 (ml_fvA (by omega)) (show (0 : Int) ≤ 240 by omega) rfl rfl (Or.inl (by omega)) (fun σ51 g51 => ?_)
  have hw := hw σ51 g51
  refine ml_aload_n (pc := 217) X hl 0 rfl rfl dX12_init_217 ?_
  refine ml_sipush (pc := 218) X dX12_init_218 (by decide) ?_
  obtain ⟨z52, hw⟩ := hw
  refine ml_newA (n0 := 215) (kc := 25) (ks := 23549) (pc := 221) (k := 241) X hs .int .int 1 5700 tw_1_42 rfl rfl (fun _ _ h => h) (5700, .inl (fun _ => 0)) (fun _ => rfl) (by omega) (by omega) (by decide +kernel) (fun f hf => by show _ = _; unfold ml_cell; simp only [hf]; rfl) z52 (by decide) (by decide) ⟨by decide, by decide⟩ dX12_init_221 ?_
  refine ml_putF (pc := 223) (x := 241) (k := 215) X hini in_X12 rfl (by decide) tk_X12 nmX12 44 (by decide) rfl rfl tw_4_235 (ml_k215 (by decide)) dX12_init_223 (ml_fvA (by omega)) (show (0 : Int) ≤ 241 by omega) rfl rfl (Or.inl (by omega)) (fun σ53 g53 => ?_)
  have hw := hw σ53 g53
  refine ml_aload_n (pc := 226) X hl 0 rfl rfl dX12_init_226 ?_
  refine ml_bipush (pc := 227) X dX12_init_227 (by decide) ?_
  obtain ⟨z54, hw⟩ := hw
  refine ml_newA (n0 := 215) (kc := 26) (ks := 29249) (pc := 229) (k := 242) X hs .int .int 1 6 tw_1_42 rfl rfl (fun _ _ h => h) (6, .inl (fun _ => 0)) (fun _ => rfl) (by omega) (by omega) (by decide +kernel) (fun f hf => by show _ = _; unfold ml_cell; simp only [hf]; rfl) z54 (by decide) (by decide) ⟨by decide, by decide⟩ dX12_init_229 ?_
  refine ml_putF (pc := 231) (x := 242) (k := 215) X hini in_X12 rfl (by decide) tk_X12 nmX12 45 (by decide) rfl rfl tw_4_236 (ml_k215 (by decide)) dX12_init_231 (ml_fvA (by omega)) (show (0 : Int) ≤ 242 by omega) rfl rfl (Or.inl (by omega)) (fun σ55 g55 => ?_)
  have hw := hw σ55 g55
  refine ml_aload_n (pc := 234) X hl 0 rfl rfl dX12_init_234 ?_
  refine ml_sipush (pc := 235) X dX12_init_235 (by decide) ?_
  obtain ⟨z56, hw⟩ := hw
  refine ml_newA (n0 := 215) (kc := 27) (ks := 29255) (pc := 238) (k := 243) X hs .int .int 1 950 tw_1_42 rfl rfl (fun _ _ h => h) (950, .inl (fun _ => 0)) (fun _ => rfl) (by omega) (by omega) (by decide +kernel) (fun f hf => by show _ = _; unfold ml_cell; simp only [hf]; rfl) z56 (by decide) (by decide) ⟨by decide, by decide⟩ dX12_init_238 ?_
  refine ml_putF (pc := 240) (x := 243) (k := 215) X hini in_X12 rfl (by decide) tk_X12 nmX12 46 (by decide) rfl rfl tw_4_237 (ml_k215 (by decide)) dX12_init_240 (ml_fvA (by omega)) (show (0 : Int) ≤ 243 by omega) rfl rfl (Or.inl (by omega)) (fun σ57 g57 => ?_)
  have hw := hw σ57 g57
  refine ml_aload_n (pc := 243) X hl 0 rfl rfl dX12_init_243 ?_
  refine ml_sipush (pc := 244) X dX12_init_244 (by decide) ?_
  obtain ⟨z58, hw⟩ := hw
  refine ml_newA (n0 := 215) (kc := 28) (ks := 30205) (pc := 247) (k := 244) X hs .long .long 4 3800 tw_1_165 rfl rfl (fun _ _ h => h) (3800, .inr (.inl (fun _ => 0))) (fun _ => rfl) (by omega) (by omega) (by decide +kernel) (fun f hf => by show _ = _; unfold ml_cell; simp only [hf]; rfl) z58 (by decide) (by decide) ⟨by decide, by decide⟩ dX12_init_247 ?_
  refine ml_putF (pc := 249) (x := 244) (k := 215) X hini in_X12 rfl (by decide) tk_X12 nmX12 47 (by decide) rfl rfl tw_4_238 (ml_k215 (by decide)) dX12_init_249 (ml_fvA (by omega)) (show (0 : Int) ≤ 244 by omega) rfl rfl (Or.inl (by omega)) (fun σ59 g59 => ?_)
  have hw := hw σ59 g59
  refine ml_aload_n (pc := 252) X hl 0 rfl rfl dX12_init_252 ?_
  refine ml_sipush (pc := 253) X dX12_init_253 (by decide) ?_
  obtain ⟨z60, hw⟩ := hw
  refine ml_newA (n0 := 215) (kc := 29) (ks := 34005) (pc := 256) (k := 245) X hs .long .long 4 3800 tw_1_165 rfl rfl (fun _ _ h => h) (3800, .inr (.inl (fun _ => 0))) (fun _ => rfl) (by omega) (by omega) (by decide +kernel) (fun f hf => by show _ = _; unfold ml_cell; simp only [hf]; rfl) z60 (by decide) (by decide) ⟨by decide, by decide⟩ dX12_init_256 ?_
  refine ml_putF (pc := 258) (x := 245) (k := 215) X hini in_X12 rfl (by decide) tk_X12 nmX12 48 (by decide) rfl rfl tw_4_239 (ml_k215 (by decide)) dX12_init_258 (ml_fvA (by omega)) (show (0 : Int) ≤ 245 by omega) rfl rfl (Or.inl (by omega)) (fun σ61 g61 => ?_)
  have hw := hw σ61 g61
  refine ml_aload_n (pc := 261) X hl 0 rfl rfl dX12_init_261 ?_
  refine ml_sipush (pc := 262) X dX12_init_262 (by decide) ?_
  obtain ⟨z62, hw⟩ := hw
  refine ml_newA (n0 := 215) (kc := 30) (ks := 37805) (pc := 265) (k := 246) X hs .boolean .boolean 3 3800 tw_5_138 rfl rfl (fun _ _ h => h) (3800, .inl (fun _ => 0)) (fun _ => rfl) (by omega) (by omega) (by decide +kernel) (fun f hf => by show _ = _; unfold ml_cell; simp only [hf]; rfl) z62 (by decide) (by decide) ⟨by decide, by decide⟩ dX12_init_265 ?_
  refine ml_putF (pc := 267) (x := 246) (k := 215) X hini in_X12 rfl (by decide) tk_X12 nmX12 49 (by decide) rfl rfl tw_5_0 (ml_k215 (by decide)) dX12_init_267 (ml_fvA (by omega)) (show (0 : Int) ≤ 246 by omega) rfl rfl (Or.inl (by omega)) (fun σ63 g63 => ?_)
  have hw := hw σ63 g63
  refine ml_aload_n (pc := 270) X hl 0 rfl rfl dX12_init_270 ?_
  refine ml_sipush (pc := 271) X dX12_init_271 (by decide) ?_
  obtain ⟨z64, hw⟩ := hw
  refine ml_newA (n0 := 215) (kc := 31) (ks := 41605) (pc := 274) (k := 247) X hs .int .int 1 3800 tw_1_42 rfl rfl (fun _ _ h => h) (3800, .inl (fun _ => 0)) (fun _ => rfl) (by omega) (by omega) (by decide +kernel) (fun f hf => by show _ = _; unfold ml_cell; simp only [hf]; rfl) z64 (by decide) (by decide) ⟨by decide, by decide⟩ dX12_init_274 ?_
  refine ml_putF (pc := 276) (x := 247) (k := 215) X hini in_X12 rfl (by decide) tk_X12 nmX12 50 (by decide) rfl rfl tw_5_1 (ml_k215 (by decide)) dX12_init_276 (ml_fvA (by omega)) (show (0 : Int) ≤ 247 by omega) rfl rfl (Or.inl (by omega)) (fun σ65 g65 => ?_)
  have hw := hw σ65 g65
  refine ml_aload_n (pc := 279) X hl 0 rfl rfl dX12_init_279 ?_
  refine ml_sipush (pc := 280) X dX12_init_280 (by decide) ?_
  obtain ⟨z66, hw⟩ := hw
  refine ml_newA (n0 := 215) (kc := 32) (ks := 45405) (pc := 283) (k := 248) X hs .int .int 1 3800 tw_1_42 rfl rfl (fun _ _ h => h) (3800, .inl (fun _ => 0)) (fun _ => rfl) (by omega) (by omega) (by decide +kernel) (fun f hf => by show _ = _; unfold ml_cell; simp only [hf]; rfl) z66 (by decide) (by decide) ⟨by decide, by decide⟩ dX12_init_283 ?_
  refine ml_putF (pc := 285) (x := 248) (k := 215) X hini in_X12 rfl (by decide) tk_X12 nmX12 51 (by decide) rfl rfl tw_5_2 (ml_k215 (by decide)) dX12_init_285 (ml_fvA (by omega)) (show (0 : Int) ≤ 248 by omega) rfl rfl (Or.inl (by omega)) (fun σ67 g67 => ?_)
  have hw := hw σ67 g67
  refine ml_aload_n (pc := 288) X hl 0 rfl rfl dX12_init_288 ?_
  refine ml_sipush (pc := 289) X dX12_init_289 (by decide) ?_
  obtain ⟨z68, hw⟩ := hw
  refine ml_newA (n0 := 215) (kc := 33) (ks := 49205) (pc := 292) (k := 249) X hs .int .int 1 3800 tw_1_42 rfl rfl (fun _ _ h => h) (3800, .inl (fun _ => 0)) (fun _ => rfl) (by omega) (by omega) (by decide +kernel) (fun f hf => by show _ = _; unfold ml_cell; simp only [hf]; rfl) z68 (by decide) (by decide) ⟨by decide, by decide⟩ dX12_init_292 ?_
  refine ml_putF (pc := 294) (x := 249) (k := 215) X hini in_X12 rfl (by decide) tk_X12 nmX12 52 (by decide) rfl rfl tw_5_3 (ml_k215 (by decide)) dX12_init_294 (ml_fvA (by omega)) (show (0 : Int) ≤ 249 by omega) rfl rfl (Or.inl (by omega)) (fun σ69 g69 => ?_)
  have hw := hw σ69 g69
  refine ml_aload_n (pc := 297) X hl 0 rfl rfl dX12_init_297 ?_
  refine ml_sipush (pc := 298) X dX12_init_298 (by decide) ?_
  obtain ⟨z70, hw⟩ := hw
  refine ml_newA (n0 := 215) (kc := 34) (ks := 53005) (pc := 301) (k := 250) X hs .int .int 1 950 tw_1_42 rfl rfl (fun _ _ h => h) (950, .inl (fun _ => 0)) (fun _ => rfl) (by omega) (by omega) (by decide +kernel) (fun f hf => by show _ = _; unfold ml_cell; simp only [hf]; rfl) z70 (by decide) (by decide) ⟨by decide, by decide⟩ dX12_init_301 ?_
  refine ml_putF (pc := 303) (x := 250) (k := 215) X hini in_X12 rfl (by decide) tk_X12 nmX12 54 (by decide) rfl rfl tw_5_5 (ml_k215 (by decide)) dX12_init_303 (ml_fvA (by omega)) (show (0 : Int) ≤ 250 by omega) rfl rfl (Or.inl (by omega)) (fun σ71 g71 => ?_)
  have hw := hw σ71 g71
  refine ml_aload_n (pc := 306) X hl 0 rfl rfl dX12_init_306 ?_
  refine ml_sipush (pc := 307) X dX12_init_307 (by decide) ?_
  obtain ⟨z72, hw⟩ := hw
  refine ml_newA (n0 := 215) (kc := 35) (ks := 53955) (pc := 310) (k := 251) X hs .int .int 1 950 tw_1_42 rfl rfl (fun _ _ h => h) (950, .inl (fun _ => 0)) (fun _ => rfl) (by omega) (by omega) (by decide +kernel) (fun f hf => by show _ = _; unfold ml_cell; simp only [hf]; rfl) z72 (by decide) (by decide) ⟨by decide, by decide⟩ dX12_init_310 ?_
  refine ml_putF (pc := 312) (x := 251) (k := 215) X hini in_X12 rfl (by decide) tk_X12 nmX12 55 (by decide) rfl rfl tw_5_6 (ml_k215 (by decide)) dX12_init_312 (ml_fvA (by omega)) (show (0 : Int) ≤ 251 by omega) rfl rfl (Or.inl (by omega)) (fun σ73 g73 => ?_)
  have hw := hw σ73 g73
  refine ml_aload_n (pc := 315) X hl 0 rfl rfl dX12_init_315 ?_
  refine ml_bipush (pc := 316) X dX12_init_316 (by decide) ?_
  obtain ⟨z74, hw⟩ := hw
  refine ml_newA (n0 := 215) (kc := 36) (ks := 54905) (pc := 318) (k := 252) X hs .int .int 1 10 tw_1_42 rfl rfl (fun _ _ h => h) (10, .inl (fun _ => 0)) (fun _ => rfl) (by omega) (by omega) (by decide +kernel) (fun f hf => by show _ = _; unfold ml_cell; simp only [hf]; rfl) z74 (by decide) (by decide) ⟨by decide, by decide⟩ dX12_init_318 ?_
  refine ml_putF (pc := 320) (x := 252) (k := 215) X hini in_X12 rfl (by decide) tk_X12 nmX12 56 (by decide) rfl rfl tw_5_7 (ml_k215 (by decide)) dX12_init_320 (ml_fvA (by omega)) (show (0 : Int) ≤ 252 by omega) rfl rfl (Or.inl (by omega)) (fun σ75 g75 => ?_)
  have hw := hw σ75 g75
  refine ml_aload_n (pc := 323) X hl 0 rfl rfl dX12_init_323 ?_
  refine ml_bipush (pc := 324) X dX12_init_324 (by decide) ?_
  obtain ⟨z76, hw⟩ := hw
  refine ml_newA (n0 := 215) (kc := 37) (ks := 54915) (pc := 326) (k := 253) X hs .int .int 1 10 tw_1_42 rfl rfl (fun _ _ h => h) (10, .inl (fun _ => 0)) (fun _ => rfl) (by omega) (by omega) (by decide +kernel) (fun f hf => by show _ = _; unfold ml_cell; simp only [hf]; rfl) z76 (by decide) (by decide) ⟨by decide, by decide⟩ dX12_init_326 ?_
  refine ml_putF (pc := 328) (x := 253) (k := 215) X hini in_X12 rfl (by decide) tk_X12 nmX12 57 (by decide) rfl rfl tw_5_8 (ml_k215 (by decide)) dX12_init_328 (ml_fvA (by omega)) (show (0 : Int) ≤ 253 by omega) rfl rfl (Or.inl (by omega)) (fun σ77 g77 => ?_)
  have hw := hw σ77 g77
  refine ml_aload_n (pc := 331) X hl 0 rfl rfl dX12_init_331 ?_
  refine ml_sipush (pc := 332) X dX12_init_332 (by decide) ?_
  obtain ⟨z78, hw⟩ := hw
  refine ml_newA (n0 := 215) (kc := 38) (ks := 54925) (pc := 335) (k := 254) X hs .byte .byte 2 32000 tw_1_85 rfl rfl (fun _ _ h => h) (32000, .inl (fun _ => 0)) (fun _ => rfl) (by omega) (by omega) (by decide +kernel) (fun f hf => by show _ = _; unfold ml_cell; simp only [hf]; rfl) z78 (by decide) (by decide) ⟨by decide, by decide⟩ dX12_init_335 ?_
  refine ml_putF (pc := 337) (x := 254) (k := 215) X hini in_X12 rfl (by decide) tk_X12 nmX12 58 (by decide) rfl rfl tw_5_9 (ml_k215 (by decide)) dX12_init_337 (ml_fvA (by omega)) (show (0 : Int) ≤ 254 by omega) rfl rfl (Or.inl (by omega)) (fun σ79 g79 => ?_)
  have hw := hw σ79 g79
  refine ml_aload_n (pc := 340) X hl 0 rfl rfl dX12_init_340 ?_
  refine ml_bipush (pc := 341) X dX12_init_341 (by decide) ?_
  obtain ⟨z80, hw⟩ := hw
  refine ml_newA (n0 := 215) (kc := 39) (ks := 86925) (pc := 343) (k := 255) X hs .int .int 1 16 tw_1_42 rfl rfl (fun _ _ h => h) (16, .inl (fun _ => 0)) (fun _ => rfl) (by omega) (by omega) (by decide +kernel) (fun f hf => by show _ = _; unfold ml_cell; simp only [hf]; rfl) z80 (by decide) (by decide) ⟨by decide, by decide⟩ dX12_init_343 ?_
  refine ml_putF (pc := 345) (x := 255) (k := 215) X hini in_X12 rfl (by decide) tk_X12 nmX12 59 (by decide) rfl rfl tw_5_10 (ml_k215 (by decide)) dX12_init_345 (ml_fvA (by omega)) (show (0 : Int) ≤ 255 by omega) rfl rfl (Or.inl (by omega)) (fun σ81 g81 => ?_)
  have hw := hw σ81 g81
  refine ml_aload_n (pc := 348) X hl 0 rfl rfl dX12_init_348 ?_
  refine ml_bipush (pc := 349) X dX12_init_349 (by decide) ?_
  obtain ⟨z82, hw⟩ := hw
  refine ml_newA (n0 := 215) (kc := 40) (ks := 86941) (pc := 351) (k := 256) X hs .int .int 1 8 tw_1_42 rfl rfl (fun _ _ h => h) (8, .inl (fun _ => 0)) (fun _ => rfl) (by omega) (by omega) (by decide +kernel) (fun f hf => by show _ = _; unfold ml_cell; simp only [hf]; rfl) z82 (by decide) (by decide) ⟨by decide, by decide⟩ dX12_init_351 ?_
  refine ml_putF (pc := 353) (x := 256) (k := 215) X hini in_X12 rfl (by decide) tk_X12 nmX12 60 (by decide) rfl rfl tw_5_11 (ml_k215 (by decide)) dX12_init_353 (ml_fvA (by omega)) (show (0 : Int) ≤ 256 by omega) rfl rfl (Or.inl (by omega)) (fun σ83 g83 => ?_)
  have hw := hw σ83 g83
  refine ml_iconst (pc := 356) X dX12_init_356 ?_
  refine ml_istore_n (pc := 357) X rfl hl (by decide) (lst' := [(1, .int (Int32.ofInt 0)), (0, .ref (base + (215 : Int).toNat))]) rfl dX12_init_357 (fun ls hl => ?_)
  refine ml_iload_n (pc := 358) X hl 0 rfl rfl dX12_init_358 ?_
  refine ml_bipush (pc := 359) X dX12_init_359 (by decide) ?_
  refine ml_icmp_ge (pc := 361) (tgt := 377) X ⟨by decide, by decide⟩ ⟨by decide, by decide⟩ dX12_init_361 (by decide) (fun c84 => absurd c84 (by decide)) (fun c84 => ?_)
  refine ml_aload_n (pc := 364) X hl 1 rfl rfl dX12_init_364 ?_
  obtain ⟨e85, hw⟩ := hw
  refine ml_getg (pc := 365) (k := 215) X in_X12 rfl (by decide) 8 (by decide) tw_4_199 (ml_k215 (by decide)) dX12_init_365 (v := .ref (base + (220 : Int).toNat)) (fun _ => by show (if σ83 215 8 = 0 then Value.null else .ref (base + (σ83 215 8).toNat)) = _; rw [e85]; exact if_neg (by omega)) (fun _ => ?_)
  refine ml_iload_n (pc := 368) X hl 0 rfl rfl dX12_init_368 ?_
  refine ml_iconst (pc := 369) X dX12_init_369 ?_
  refine ml_iast (pc := 370) (k := 220) (i := 0) (v := 1) (N := 16) X (ml_k220 (by decide)) (by decide) (by decide) ⟨by decide, by decide⟩ dX12_init_370 (fun σ86 g86 => ?_)
  have hw := hw σ86 g86
  refine ml_iinc (pc := 371) X (x := 0) (y := 1) (by decide) hl 0 rfl (by decide) (lst' := [(1, .int (Int32.ofInt 1)), (0, .ref (base + (215 : Int).toNat))]) rfl dX12_init_371 (fun ls hl => ?_)
  refine ml_goto (pc := 374) (tgt := 358) X dX12_init_374 (by decide) ?_
  refine ml_iload_n (pc := 358) X hl 0 rfl rfl dX12_init_358 ?_
  refine ml_bipush (pc := 359) X dX12_init_359 (by decide) ?_
  refine ml_icmp_ge (pc := 361) (tgt := 377) X ⟨by decide, by decide⟩ ⟨by decide, by decide⟩ dX12_init_361 (by decide) (fun c87 => absurd c87 (by decide)) (fun c87 => ?_)
  refine ml_aload_n (pc := 364) X hl 1 rfl rfl dX12_init_364 ?_
  obtain ⟨e88, hw⟩ := hw
  refine ml_getg (pc := 365) (k := 215) X in_X12 rfl (by decide) 8 (by decide) tw_4_199 (ml_k215 (by decide)) dX12_init_365 (v := .ref (base + (220 : Int).toNat)) (fun _ => by show (if σ86 215 8 = 0 then Value.null else .ref (base + (σ86 215 8).toNat)) = _; rw [e88]; exact if_neg (by omega)) (fun _ => ?_)
  refine ml_iload_n (pc := 368) X hl 0 rfl rfl dX12_init_368 ?_
  refine ml_iconst (pc := 369) X dX12_init_369 ?_
  refine ml_iast (pc := 370) (k := 220) (i := 1) (v := 1) (N := 16) X (ml_k220 (by decide)) (by decide) (by decide) ⟨by decide, by decide⟩ dX12_init_370 (fun σ89 g89 => ?_)
  have hw := hw σ89 g89
  refine ml_iinc (pc := 371) X (x := 1) (y := 2) (by decide) hl 0 rfl (by decide) (lst' := [(1, .int (Int32.ofInt 2)), (0, .ref (base + (215 : Int).toNat))]) rfl dX12_init_371 (fun ls hl => ?_)
  refine ml_goto (pc := 374) (tgt := 358) X dX12_init_374 (by decide) ?_
  refine ml_iload_n (pc := 358) X hl 0 rfl rfl dX12_init_358 ?_
  refine ml_bipush (pc := 359) X dX12_init_359 (by decide) ?_
  refine ml_icmp_ge (pc := 361) (tgt := 377) X ⟨by decide, by decide⟩ ⟨by decide, by decide⟩ dX12_init_361 (by decide) (fun c90 => absurd c90 (by decide)) (fun c90 => ?_)
  refine ml_aload_n (pc := 364) X hl 1 rfl rfl dX12_init_364 ?_
  obtain ⟨e91, hw⟩ := hw
  refine ml_getg (pc := 365) (k := 215) X in_X12 rfl (by decide) 8 (by decide) tw_4_199 (ml_k215 (by decide)) dX12_init_365 (v := .ref (base + (220 : Int).toNat)) (fun _ => by show (if σ89 215 8 = 0 then Value.null else .ref (base + (σ89 215 8).toNat)) = _; rw [e91]; exact if_neg (by omega)) (fun _ => ?_)
  refine ml_iload_n (pc := 368) X hl 0 rfl rfl dX12_init_368 ?_
  refine ml_iconst (pc := 369) X dX12_init_369 ?_
  refine ml_iast (pc := 370) (k := 220) (i := 2) (v := 1) (N := 16) X (ml_k220 (by decide)) (by decide) (by decide) ⟨by decide, by decide⟩ dX12_init_370 (fun σ92 g92 => ?_)
  have hw := hw σ92 g92
  refine ml_iinc (pc := 371) X (x := 2) (y := 3) (by decide) hl 0 rfl (by decide) (lst' := [(1, .int (Int32.ofInt 3)), (0, .ref (base + (215 : Int).toNat))]) rfl dX12_init_371 (fun ls hl => ?_)
  refine ml_goto (pc := 374) (tgt := 358) X dX12_init_374 (by decide) ?_
  refine ml_iload_n (pc := 358) X hl 0 rfl rfl dX12_init_358 ?_
  refine ml_bipush (pc := 359) X dX12_init_359 (by decide) ?_
  refine ml_icmp_ge (pc := 361) (tgt := 377) X ⟨by decide, by decide⟩ ⟨by decide, by decide⟩ dX12_init_361 (by decide) (fun c93 => absurd c93 (by decide)) (fun c93 => ?_)
  refine ml_aload_n (pc := 364) X hl 1 rfl rfl dX12_init_364 ?_
  obtain ⟨e94, hw⟩ := hw
  refine ml_getg (pc := 365) (k := 215) X in_X12 rfl (by decide) 8 (by decide) tw_4_199 (ml_k215 (by decide)) dX12_init_365 (v := .ref (base + (220 : Int).toNat)) (fun _ => by show (if σ92 215 8 = 0 then Value.null else .ref (base + (σ92 215 8).toNat)) = _; rw [e94]; exact if_neg (by omega)) (fun _ => ?_)
  refine ml_iload_n (pc := 368) X hl 0 rfl rfl dX12_init_368 ?_
  refine ml_iconst (pc := 369) X dX12_init_369 ?_
  refine ml_iast (pc := 370) (k := 220) (i := 3) (v := 1) (N := 16) X (ml_k220 (by decide)) (by decide) (by decide) ⟨by decide, by decide⟩ dX12_init_370 (fun σ95 g95 => ?_)
  have hw := hw σ95 g95
  refine ml_iinc (pc := 371) X (x := 3) (y := 4) (by decide) hl 0 rfl (by decide) (lst' := [(1, .int (Int32.ofInt 4)), (0, .ref (base + (215 : Int).toNat))]) rfl dX12_init_371 (fun ls hl => ?_)
  refine ml_goto (pc := 374) (tgt := 358) X dX12_init_374 (by decide) ?_
  refine ml_iload_n (pc := 358) X hl 0 rfl rfl dX12_init_358 ?_
  refine ml_bipush (pc := 359) X dX12_init_359 (by decide) ?_
  refine ml_icmp_ge (pc := 361) (tgt := 377) X ⟨by decide, by decide⟩ ⟨by decide, by decide⟩ dX12_init_361 (by decide) (fun c96 => absurd c96 (by decide)) (fun c96 => ?_)
  refine ml_aload_n (pc := 364) X hl 1 rfl rfl dX12_init_364 ?_
  obtain ⟨e97, hw⟩ := hw
  refine ml_getg (pc := 365) (k := 215) X in_X12 rfl (by decide) 8 (by decide) tw_4_199 (ml_k215 (by decide)) dX12_init_365 (v := .ref (base + (220 : Int).toNat)) (fun _ => by show (if σ95 215 8 = 0 then Value.null else .ref (base + (σ95 215 8).toNat)) = _; rw [e97]; exact if_neg (by omega)) (fun _ => ?_)
  refine ml_iload_n (pc := 368) X hl 0 rfl rfl dX12_init_368 ?_
  refine ml_iconst (pc := 369) X dX12_init_369 ?_
  refine ml_iast (pc := 370) (k := 220) (i := 4) (v := 1) (N := 16) X (ml_k220 (by decide)) (by decide) (by decide) ⟨by decide, by decide⟩ dX12_init_370 (fun σ98 g98 => ?_)
  have hw := hw σ98 g98
  refine ml_iinc (pc := 371) X (x := 4) (y := 5) (by decide) hl 0 rfl (by decide) (lst' := [(1, .int (Int32.ofInt 5)), (0, .ref (base + (215 : Int).toNat))]) rfl dX12_init_371 (fun ls hl => ?_)
  refine ml_goto (pc := 374) (tgt := 358) X dX12_init_374 (by decide) ?_
  refine ml_iload_n (pc := 358) X hl 0 rfl rfl dX12_init_358 ?_
  refine ml_bipush (pc := 359) X dX12_init_359 (by decide) ?_
  refine ml_icmp_ge (pc := 361) (tgt := 377) X ⟨by decide, by decide⟩ ⟨by decide, by decide⟩ dX12_init_361 (by decide) (fun c99 => absurd c99 (by decide)) (fun c99 => ?_)
  refine ml_aload_n (pc := 364) X hl 1 rfl rfl dX12_init_364 ?_
  obtain ⟨e100, hw⟩ := hw
  refine ml_getg (pc := 365) (k := 215) X in_X12 rfl (by decide) 8 (by decide) tw_4_199 (ml_k215 (by decide)) dX12_init_365 (v := .ref (base + (220 : Int).toNat)) (fun _ => by show (if σ98 215 8 = 0 then Value.null else .ref (base + (σ98 215 8).toNat)) = _; rw [e100]; exact if_neg (by omega)) (fun _ => ?_)
  refine ml_iload_n (pc := 368) X hl 0 rfl rfl dX12_init_368 ?_
  refine ml_iconst (pc := 369) X dX12_init_369 ?_
  refine ml_iast (pc := 370) (k := 220) (i := 5) (v := 1) (N := 16) X (ml_k220 (by decide)) (by decide) (by decide) ⟨by decide, by decide⟩ dX12_init_370 (fun σ101 g101 => ?_)
  have hw := hw σ101 g101
  refine ml_iinc (pc := 371) X (x := 5) (y := 6) (by decide) hl 0 rfl (by decide) (lst' := [(1, .int (Int32.ofInt 6)), (0, .ref (base + (215 : Int).toNat))]) rfl dX12_init_371 (fun ls hl => ?_)
  refine ml_goto (pc := 374) (tgt := 358) X dX12_init_374 (by decide) ?_
  refine ml_iload_n (pc := 358) X hl 0 rfl rfl dX12_init_358 ?_
  refine ml_bipush (pc := 359) X dX12_init_359 (by decide) ?_
  refine ml_icmp_ge (pc := 361) (tgt := 377) X ⟨by decide, by decide⟩ ⟨by decide, by decide⟩ dX12_init_361 (by decide) (fun c102 => absurd c102 (by decide)) (fun c102 => ?_)
  refine ml_aload_n (pc := 364) X hl 1 rfl rfl dX12_init_364 ?_
  obtain ⟨e103, hw⟩ := hw
  refine ml_getg (pc := 365) (k := 215) X in_X12 rfl (by decide) 8 (by decide) tw_4_199 (ml_k215 (by decide)) dX12_init_365 (v := .ref (base + (220 : Int).toNat)) (fun _ => by show (if σ101 215 8 = 0 then Value.null else .ref (base + (σ101 215 8).toNat)) = _; rw [e103]; exact if_neg (by omega)) (fun _ => ?_)
  refine ml_iload_n (pc := 368) X hl 0 rfl rfl dX12_init_368 ?_
  refine ml_iconst (pc := 369) X dX12_init_369 ?_
  refine ml_iast (pc := 370) (k := 220) (i := 6) (v := 1) (N := 16) X (ml_k220 (by decide)) (by decide) (by decide) ⟨by decide, by decide⟩ dX12_init_370 (fun σ104 g104 => ?_)
  have hw := hw σ104 g104
  refine ml_iinc (pc := 371) X (x := 6) (y := 7) (by decide) hl 0 rfl (by decide) (lst' := [(1, .int (Int32.ofInt 7)), (0, .ref (base + (215 : Int).toNat))]) rfl dX12_init_371 (fun ls hl => ?_)
  refine ml_goto (pc := 374) (tgt := 358) X dX12_init_374 (by decide) ?_
  refine ml_iload_n (pc := 358) X hl 0 rfl rfl dX12_init_358 ?_
  refine ml_bipush (pc := 359) X dX12_init_359 (by decide) ?_
  refine ml_icmp_ge (pc := 361) (tgt := 377) X ⟨by decide, by decide⟩ ⟨by decide, by decide⟩ dX12_init_361 (by decide) (fun c105 => absurd c105 (by decide)) (fun c105 => ?_)
  refine ml_aload_n (pc := 364) X hl 1 rfl rfl dX12_init_364 ?_
  obtain ⟨e106, hw⟩ := hw
  refine ml_getg (pc := 365) (k := 215) X in_X12 rfl (by decide) 8 (by decide) tw_4_199 (ml_k215 (by decide)) dX12_init_365 (v := .ref (base + (220 : Int).toNat)) (fun _ => by show (if σ104 215 8 = 0 then Value.null else .ref (base + (σ104 215 8).toNat)) = _; rw [e106]; exact if_neg (by omega)) (fun _ => ?_)
  refine ml_iload_n (pc := 368) X hl 0 rfl rfl dX12_init_368 ?_
  refine ml_iconst (pc := 369) X dX12_init_369 ?_
  refine ml_iast (pc := 370) (k := 220) (i := 7) (v := 1) (N := 16) X (ml_k220 (by decide)) (by decide) (by decide) ⟨by decide, by decide⟩ dX12_init_370 (fun σ107 g107 => ?_)
  have hw := hw σ107 g107
  refine ml_iinc (pc := 371) X (x := 7) (y := 8) (by decide) hl 0 rfl (by decide) (lst' := [(1, .int (Int32.ofInt 8)), (0, .ref (base + (215 : Int).toNat))]) rfl dX12_init_371 (fun ls hl => ?_)
  refine ml_goto (pc := 374) (tgt := 358) X dX12_init_374 (by decide) ?_
  refine ml_iload_n (pc := 358) X hl 0 rfl rfl dX12_init_358 ?_
  refine ml_bipush (pc := 359) X dX12_init_359 (by decide) ?_
  refine ml_icmp_ge (pc := 361) (tgt := 377) X ⟨by decide, by decide⟩ ⟨by decide, by decide⟩ dX12_init_361 (by decide) (fun c108 => absurd c108 (by decide)) (fun c108 => ?_)
  refine ml_aload_n (pc := 364) X hl 1 rfl rfl dX12_init_364 ?_
  obtain ⟨e109, hw⟩ := hw
  refine ml_getg (pc := 365) (k := 215) X in_X12 rfl (by decide) 8 (by decide) tw_4_199 (ml_k215 (by decide)) dX12_init_365 (v := .ref (base + (220 : Int).toNat)) (fun _ => by show (if σ107 215 8 = 0 then Value.null else .ref (base + (σ107 215 8).toNat)) = _; rw [e109]; exact if_neg (by omega)) (fun _ => ?_)
  refine ml_iload_n (pc := 368) X hl 0 rfl rfl dX12_init_368 ?_
  refine ml_iconst (pc := 369) X dX12_init_369 ?_
  refine ml_iast (pc := 370) (k := 220) (i := 8) (v := 1) (N := 16) X (ml_k220 (by decide)) (by decide) (by decide) ⟨by decide, by decide⟩ dX12_init_370 (fun σ110 g110 => ?_)
  have hw := hw σ110 g110
  refine ml_iinc (pc := 371) X (x := 8) (y := 9) (by decide) hl 0 rfl (by decide) (lst' := [(1, .int (Int32.ofInt 9)), (0, .ref (base + (215 : Int).toNat))]) rfl dX12_init_371 (fun ls hl => ?_)
  refine ml_goto (pc := 374) (tgt := 358) X dX12_init_374 (by decide) ?_
  refine ml_iload_n (pc := 358) X hl 0 rfl rfl dX12_init_358 ?_
  refine ml_bipush (pc := 359) X dX12_init_359 (by decide) ?_
  refine ml_icmp_ge (pc := 361) (tgt := 377) X ⟨by decide, by decide⟩ ⟨by decide, by decide⟩ dX12_init_361 (by decide) (fun c111 => absurd c111 (by decide)) (fun c111 => ?_)
  refine ml_aload_n (pc := 364) X hl 1 rfl rfl dX12_init_364 ?_
  obtain ⟨e112, hw⟩ := hw
  refine ml_getg (pc := 365) (k := 215) X in_X12 rfl (by decide) 8 (by decide) tw_4_199 (ml_k215 (by decide)) dX12_init_365 (v := .ref (base + (220 : Int).toNat)) (fun _ => by show (if σ110 215 8 = 0 then Value.null else .ref (base + (σ110 215 8).toNat)) = _; rw [e112]; exact if_neg (by omega)) (fun _ => ?_)
  refine ml_iload_n (pc := 368) X hl 0 rfl rfl dX12_init_368 ?_
  refine ml_iconst (pc := 369) X dX12_init_369 ?_
  refine ml_iast (pc := 370) (k := 220) (i := 9) (v := 1) (N := 16) X (ml_k220 (by decide)) (by decide) (by decide) ⟨by decide, by decide⟩ dX12_init_370 (fun σ113 g113 => ?_)
  have hw := hw σ113 g113
  refine ml_iinc (pc := 371) X (x := 9) (y := 10) (by decide) hl 0 rfl (by decide) (lst' := [(1, .int (Int32.ofInt 10)), (0, .ref (base + (215 : Int).toNat))]) rfl dX12_init_371 (fun ls hl => ?_)
  refine ml_goto (pc := 374) (tgt := 358) X dX12_init_374 (by decide) ?_
  refine ml_iload_n (pc := 358) X hl 0 rfl rfl dX12_init_358 ?_
  refine ml_bipush (pc := 359) X dX12_init_359 (by decide) ?_
  refine ml_icmp_ge (pc := 361) (tgt := 377) X ⟨by decide, by decide⟩ ⟨by decide, by decide⟩ dX12_init_361 (by decide) (fun c114 => absurd c114 (by decide)) (fun c114 => ?_)
  refine ml_aload_n (pc := 364) X hl 1 rfl rfl dX12_init_364 ?_
  obtain ⟨e115, hw⟩ := hw
  refine ml_getg (pc := 365) (k := 215) X in_X12 rfl (by decide) 8 (by decide) tw_4_199 (ml_k215 (by decide)) dX12_init_365 (v := .ref (base + (220 : Int).toNat)) (fun _ => by show (if σ113 215 8 = 0 then Value.null else .ref (base + (σ113 215 8).toNat)) = _; rw [e115]; exact if_neg (by omega)) (fun _ => ?_)
  refine ml_iload_n (pc := 368) X hl 0 rfl rfl dX12_init_368 ?_
  refine ml_iconst (pc := 369) X dX12_init_369 ?_
  refine ml_iast (pc := 370) (k := 220) (i := 10) (v := 1) (N := 16) X (ml_k220 (by decide)) (by decide) (by decide) ⟨by decide, by decide⟩ dX12_init_370 (fun σ116 g116 => ?_)
  have hw := hw σ116 g116
  refine ml_iinc (pc := 371) X (x := 10) (y := 11) (by decide) hl 0 rfl (by decide) (lst' := [(1, .int (Int32.ofInt 11)), (0, .ref (base + (215 : Int).toNat))]) rfl dX12_init_371 (fun ls hl => ?_)
  refine ml_goto (pc := 374) (tgt := 358) X dX12_init_374 (by decide) ?_
  refine ml_iload_n (pc := 358) X hl 0 rfl rfl dX12_init_358 ?_
  refine ml_bipush (pc := 359) X dX12_init_359 (by decide) ?_
  refine ml_icmp_ge (pc := 361) (tgt := 377) X ⟨by decide, by decide⟩ ⟨by decide, by decide⟩ dX12_init_361 (by decide) (fun c117 => absurd c117 (by decide)) (fun c117 => ?_)
  refine ml_aload_n (pc := 364) X hl 1 rfl rfl dX12_init_364 ?_
  obtain ⟨e118, hw⟩ := hw
  refine ml_getg (pc := 365) (k := 215) X in_X12 rfl (by decide) 8 (by decide) tw_4_199 (ml_k215 (by decide)) dX12_init_365 (v := .ref (base + (220 : Int).toNat)) (fun _ => by show (if σ116 215 8 = 0 then Value.null else .ref (base + (σ116 215 8).toNat)) = _; rw [e118]; exact if_neg (by omega)) (fun _ => ?_)
  refine ml_iload_n (pc := 368) X hl 0 rfl rfl dX12_init_368 ?_
  refine ml_iconst (pc := 369) X dX12_init_369 ?_
  refine ml_iast (pc := 370) (k := 220) (i := 11) (v := 1) (N := 16) X (ml_k220 (by decide)) (by decide) (by decide) ⟨by decide, by decide⟩ dX12_init_370 (fun σ119 g119 => ?_)
  have hw := hw σ119 g119
  refine ml_iinc (pc := 371) X (x := 11) (y := 12) (by decide) hl 0 rfl (by decide) (lst' := [(1, .int (Int32.ofInt 12)), (0, .ref (base + (215 : Int).toNat))]) rfl dX12_init_371 (fun ls hl => ?_)
  refine ml_goto (pc := 374) (tgt := 358) X dX12_init_374 (by decide) ?_
  refine ml_iload_n (pc := 358) X hl 0 rfl rfl dX12_init_358 ?_
  refine ml_bipush (pc := 359) X dX12_init_359 (by decide) ?_
  refine ml_icmp_ge (pc := 361) (tgt := 377) X ⟨by decide, by decide⟩ ⟨by decide, by decide⟩ dX12_init_361 (by decide) (fun c120 => absurd c120 (by decide)) (fun c120 => ?_)
  refine ml_aload_n (pc := 364) X hl 1 rfl rfl dX12_init_364 ?_
  obtain ⟨e121, hw⟩ := hw
  refine ml_getg (pc := 365) (k := 215) X in_X12 rfl (by decide) 8 (by decide) tw_4_199 (ml_k215 (by decide)) dX12_init_365 (v := .ref (base + (220 : Int).toNat)) (fun _ => by show (if σ119 215 8 = 0 then Value.null else .ref (base + (σ119 215 8).toNat)) = _; rw [e121]; exact if_neg (by omega)) (fun _ => ?_)
  refine ml_iload_n (pc := 368) X hl 0 rfl rfl dX12_init_368 ?_
  refine ml_iconst (pc := 369) X dX12_init_369 ?_
  refine ml_iast (pc := 370) (k := 220) (i := 12) (v := 1) (N := 16) X (ml_k220 (by decide)) (by decide) (by decide) ⟨by decide, by decide⟩ dX12_init_370 (fun σ122 g122 => ?_)
  have hw := hw σ122 g122
  refine ml_iinc (pc := 371) X (x := 12) (y := 13) (by decide) hl 0 rfl (by decide) (lst' := [(1, .int (Int32.ofInt 13)), (0, .ref (base + (215 : Int).toNat))]) rfl dX12_init_371 (fun ls hl => ?_)
  refine ml_goto (pc := 374) (tgt := 358) X dX12_init_374 (by decide) ?_
  refine ml_iload_n (pc := 358) X hl 0 rfl rfl dX12_init_358 ?_
  refine ml_bipush (pc := 359) X dX12_init_359 (by decide) ?_
  refine ml_icmp_ge (pc := 361) (tgt := 377) X ⟨by decide, by decide⟩ ⟨by decide, by decide⟩ dX12_init_361 (by decide) (fun c123 => absurd c123 (by decide)) (fun c123 => ?_)
  refine ml_aload_n (pc := 364) X hl 1 rfl rfl dX12_init_364 ?_
  obtain ⟨e124, hw⟩ := hw
  refine ml_getg (pc := 365) (k := 215) X in_X12 rfl (by decide) 8 (by decide) tw_4_199 (ml_k215 (by decide)) dX12_init_365 (v := .ref (base + (220 : Int).toNat)) (fun _ => by show (if σ122 215 8 = 0 then Value.null else .ref (base + (σ122 215 8).toNat)) = _; rw [e124]; exact if_neg (by omega)) (fun _ => ?_)
  refine ml_iload_n (pc := 368) X hl 0 rfl rfl dX12_init_368 ?_
  refine ml_iconst (pc := 369) X dX12_init_369 ?_
  refine ml_iast (pc := 370) (k := 220) (i := 13) (v := 1) (N := 16) X (ml_k220 (by decide)) (by decide) (by decide) ⟨by decide, by decide⟩ dX12_init_370 (fun σ125 g125 => ?_)
  have hw := hw σ125 g125
  refine ml_iinc (pc := 371) X (x := 13) (y := 14) (by decide) hl 0 rfl (by decide) (lst' := [(1, .int (Int32.ofInt 14)), (0, .ref (base + (215 : Int).toNat))]) rfl dX12_init_371 (fun ls hl => ?_)
  refine ml_goto (pc := 374) (tgt := 358) X dX12_init_374 (by decide) ?_
  refine ml_iload_n (pc := 358) X hl 0 rfl rfl dX12_init_358 ?_
  refine ml_bipush (pc := 359) X dX12_init_359 (by decide) ?_
  refine ml_icmp_ge (pc := 361) (tgt := 377) X ⟨by decide, by decide⟩ ⟨by decide, by decide⟩ dX12_init_361 (by decide) (fun c126 => absurd c126 (by decide)) (fun c126 => ?_)
  refine ml_aload_n (pc := 364) X hl 1 rfl rfl dX12_init_364 ?_
  obtain ⟨e127, hw⟩ := hw
  refine ml_getg (pc := 365) (k := 215) X in_X12 rfl (by decide) 8 (by decide) tw_4_199 (ml_k215 (by decide)) dX12_init_365 (v := .ref (base + (220 : Int).toNat)) (fun _ => by show (if σ125 215 8 = 0 then Value.null else .ref (base + (σ125 215 8).toNat)) = _; rw [e127]; exact if_neg (by omega)) (fun _ => ?_)
  refine ml_iload_n (pc := 368) X hl 0 rfl rfl dX12_init_368 ?_
  refine ml_iconst (pc := 369) X dX12_init_369 ?_
  refine ml_iast (pc := 370) (k := 220) (i := 14) (v := 1) (N := 16) X (ml_k220 (by decide)) (by decide) (by decide) ⟨by decide, by decide⟩ dX12_init_370 (fun σ128 g128 => ?_)
  have hw := hw σ128 g128
  refine ml_iinc (pc := 371) X (x := 14) (y := 15) (by decide) hl 0 rfl (by decide) (lst' := [(1, .int (Int32.ofInt 15)), (0, .ref (base + (215 : Int).toNat))]) rfl dX12_init_371 (fun ls hl => ?_)
  refine ml_goto (pc := 374) (tgt := 358) X dX12_init_374 (by decide) ?_
  refine ml_iload_n (pc := 358) X hl 0 rfl rfl dX12_init_358 ?_
  refine ml_bipush (pc := 359) X dX12_init_359 (by decide) ?_
  refine ml_icmp_ge (pc := 361) (tgt := 377) X ⟨by decide, by decide⟩ ⟨by decide, by decide⟩ dX12_init_361 (by decide) (fun c129 => absurd c129 (by decide)) (fun c129 => ?_)
  refine ml_aload_n (pc := 364) X hl 1 rfl rfl dX12_init_364 ?_
  obtain ⟨e130, hw⟩ := hw
  refine ml_getg (pc := 365) (k := 215) X in_X12 rfl (by decide) 8 (by decide) tw_4_199 (ml_k215 (by decide)) dX12_init_365 (v := .ref (base + (220 : Int).toNat)) (fun _ => by show (if σ128 215 8 = 0 then Value.null else .ref (base + (σ128 215 8).toNat)) = _; rw [e130]; exact if_neg (by omega)) (fun _ => ?_)
  refine ml_iload_n (pc := 368) X hl 0 rfl rfl dX12_init_368 ?_
  refine ml_iconst (pc := 369) X dX12_init_369 ?_
  refine ml_iast (pc := 370) (k := 220) (i := 15) (v := 1) (N := 16) X (ml_k220 (by decide)) (by decide) (by decide) ⟨by decide, by decide⟩ dX12_init_370 (fun σ131 g131 => ?_)
  have hw := hw σ131 g131
  refine ml_iinc (pc := 371) X (x := 15) (y := 16) (by decide) hl 0 rfl (by decide) (lst' := [(1, .int (Int32.ofInt 16)), (0, .ref (base + (215 : Int).toNat))]) rfl dX12_init_371 (fun ls hl => ?_)
  refine ml_goto (pc := 374) (tgt := 358) X dX12_init_374 (by decide) ?_
  refine ml_iload_n (pc := 358) X hl 0 rfl rfl dX12_init_358 ?_
  refine ml_bipush (pc := 359) X dX12_init_359 (by decide) ?_
  refine ml_icmp_ge (pc := 361) (tgt := 377) X ⟨by decide, by decide⟩ ⟨by decide, by decide⟩ dX12_init_361 (by decide) (fun c132 => ?_) (fun c132 => absurd c132 (by decide))
  exact ml_vretC (pc := 377) X hw dX12_init_377
