/-! the class: the plain public methods -/
theorem s_goRound2 {Q : ml_St → Prop} {h : Int} {σ : ml_St} (h2 : 2 ≤ h) (h5 : h ≤ 5) (k : ∀ σ', (∀ j, j ≠ 4 → j ≠ 5 → σ' j = σ j) → σ' 4 1 = 0 → mt_eq h (σ' 5) (mt_str h) → Q σ') : f_X0_goRound σ h Q := by
  have L : ∀ (N : Nat) (n : Int) (σ1 : ml_St), 0 ≤ n → n ≤ 2 * h → 2 * h - n < N → (∀ j, j ≠ 5 → σ1 j = σ j) → (∀ e, 0 ≤ e → e < n → σ1 5 e = mt_str h e) → f_X0_goRound_u2 Q (f_X0_goRound_u35 Q) N σ1 h n := by
    intro N
    induction N with
    | zero => intro n σ1 n0 n1 hN; omega
    | succ N ih =>
      intro n σ1 n0 n1 hN f hr
      unfold f_X0_goRound_u2
      refine ⟨mt_i (by omega) (by omega), fun c => ?_, fun c => ?_⟩
      · unfold f_X0_goRound_u35
        intro σ2 s2
        exact k σ2 (fun j h1 h3 => by rw [s2, ml_up_k h1, f j h3]) (by rw [s2, ml_up_same]) (fun e e0 e1 => by rw [s2, ml_up_k (by omega)]; exact hr e e0 (by omega))
      · have one : ∀ s2, s2 = mt_str h n → f_X0_goRound_u28 Q (f_X0_goRound_u2 Q (f_X0_goRound_u35 Q) N) σ1 h n n s2 := by
          intro s2 es
          unfold f_X0_goRound_u28
          refine ⟨n0, by omega, fun σ2 g2 => ⟨mt_i (by omega) (by omega), fun y e => ?_⟩⟩
          subst e
          refine ih (n + 1) σ2 (by omega) (by omega) (by omega) (fun j hj => by rw [g2, ml_up_k hj, f j hj]) (fun e e0 e1 => ?_)
          rw [g2]
          by_cases q : e = n
          · rw [q, ml_up_same, es]
          · rw [ml_up_i q]; exact hr e e0 (by omega)
        have g := (mt_str_e h5 n0 (show n < 2 * h by omega)).1
        refine ⟨fun d => ⟨mt_i (by omega) (by omega), one _ ?_⟩, fun d => ⟨mt_i (by omega) (by omega), one _ ?_⟩⟩
        · rw [g, if_neg (by omega)]
        · rw [g, if_pos (by omega)]
  unfold f_X0_goRound f_X0_goRound_u0
  exact ⟨(2 * h).toNat + 1, L _ 0 σ (by omega) (by omega) (by omega) (fun _ _ => rfl) (fun e e0 e1 => absurd e1 (by omega))⟩
theorem c_round {Q : Int → ml_St → Prop} {h told ts cap : Int} {tb cl pr sz : Int → Int} {T : Int → Int → Int} {σ0 : ml_St} (i : IC h told ts cap tb cl pr sz T σ0) (k : ∀ σ, IC h told ts 0 tb (mt_str h) pr sz T σ → (∀ j, 215 ≤ j → σ j = σ0 j) → Q 1 σ) : f_X11_round σ0 Q := by
  obtain ⟨a, b, c, d, e, r, s⟩ := i
  obtain ⟨a1, a2, h2, h5, t0, t16⟩ := a
  unfold f_X11_round f_X11_round_u0
  rw [a1]
  refine fun _ => s_goRound2 h2 h5 (fun σ f z ec => k σ ⟨ic_A_k (f 1 (by omega) (by omega)) ⟨a1, a2, h2, h5, t0, t16⟩, ic_B_k (f 2 (by omega) (by omega)) (f 3 (by omega) (by omega)) b, ⟨z, Or.inl rfl, ec, mt_str_M h5, fun _ _ _ _ => rfl⟩, ic_D_k (fun w w0 w1 => by rw [f _ (by omega) (by omega)]) d, fun w w0 w1 => ⟨ic_T_k (by rw [f _ (by omega) (by omega)]) (by rw [f _ (by omega) (by omega)]) (f _ (by omega) (by omega)) (e w w0 w1).1, mt_wv_eq (f _ (by omega) (by omega)) (f _ (by omega) (by omega)) (f _ (by omega) (by omega)) (e w w0 w1).2⟩, ic_R_k (fun w w0 w1 => ⟨by rw [f _ (by omega) (by omega)], by rw [f _ (by omega) (by omega)], f _ (by omega) (by omega)⟩) r, ic_S_k (fun j h1 h2 => f j (by omega) (by omega)) s⟩ (fun j hj => f j (by omega) (by omega)))
theorem c_rails {Q : Int → ml_St → Prop} {h told ts cap n : Int} {tb cl pr sz : Int → Int} {T : Int → Int → Int} {σ0 : ml_St} (i : IC h told ts cap tb cl pr sz T σ0) (k0 : ¬ (2 ≤ n ∧ n ≤ 5 ∧ told = 0) → Q 0 σ0) (k1 : 2 ≤ n → n ≤ 5 → told = 0 → ∀ σ, IC n told ts 0 tb (mt_str n) pr sz T σ → (∀ j, 215 ≤ j → σ j = σ0 j) → Q 1 σ) : f_X11_rails σ0 n Q := by
  obtain ⟨a, b, c, d, e, r, s⟩ := i
  obtain ⟨a1, a2, h2, h5, t0, t16⟩ := a
  unfold f_X11_rails f_X11_rails_u0
  rw [a2]
  unfold f_X11_rails_u17
  refine ⟨fun q => k0 (by omega), fun q => ⟨fun q2 => k0 (by omega), fun q2 _ => ⟨fun q3 σ5 s5 => ?_, fun q3 => k0 (by omega)⟩⟩⟩
  have f5 : ∀ j, j ≠ 1 → σ5 j = σ0 j := fun j hj => by rw [s5, ml_up_k hj]
  have t00 : told = 0 := by omega
  refine s_goRound2 (by omega) (by omega) (fun σ f z ec => k1 (by omega) (by omega) t00 σ ?_ (fun j hj => by rw [f j (by omega) (by omega), f5 j (by omega)]))
  have f' : ∀ j, j ≠ 1 → j ≠ 4 → j ≠ 5 → σ j = σ0 j := fun j h1 h3 h4 => by rw [f j h3 h4, f5 j h1]
  have e1 : σ 1 = σ5 1 := f 1 (by omega) (by omega)
  refine ⟨⟨by rw [e1, s5, ml_up_same], by rw [e1, s5, ml_up_i (by omega), a2], by omega, by omega, t0, t16⟩, ic_B_k (f' 2 (by omega) (by omega) (by omega)) (f' 3 (by omega) (by omega) (by omega)) b, ⟨z, Or.inl rfl, ec, mt_str_M (by omega), fun _ _ _ _ => rfl⟩, ic_D_k (fun w w0 w1 => by rw [f' _ (by omega) (by omega) (by omega)]) d, fun w w0 w1 => absurd w1 (by omega), ic_R_k (fun w w0 w1 => ⟨by rw [f' _ (by omega) (by omega) (by omega)], by rw [f' _ (by omega) (by omega) (by omega)], f' _ (by omega) (by omega) (by omega)⟩) r, ?_⟩
  rcases s with s | s
  · left; rw [f' 55 (by omega) (by omega) (by omega)]; exact s
  · exact absurd s.1 (by omega)
theorem c_word {Q : Int → ml_St → Prop} {h told ts cap n : Int} {tb cl pr sz : Int → Int} {T : Int → Int → Int} {σ0 : ml_St} (i : IC h told ts cap tb cl pr sz T σ0)
    (k1 : ¬ (told ≠ 16 ∧ 1 ≤ n ∧ n ≤ 100 ∧ n ≤ ts) → Q (-1) σ0)
    (k2 : told ≠ 16 → 1 ≤ n → n ≤ 100 → n ≤ ts → mt_fl h told n tb ≠ 0 → ∀ σ, IC h told 0 cap tb cl pr sz T σ → (∀ j, 215 ≤ j → σ j = σ0 j) → Q (mt_fl h told n tb) σ)
    (k3 : told ≠ 16 → 1 ≤ n → n ≤ 100 → n ≤ ts → mt_fl h told n tb = 0 → mt_mst < mt_wo tb n h (mt_mk h T sz) 23 → ∀ σ, IC h told 0 cap tb cl pr sz T σ → (∀ j, 215 ≤ j → σ j = σ0 j) → Q (-5000 - n) σ)
    (k4 : told ≠ 16 → 1 ≤ n → n ≤ 100 → n ≤ ts → mt_fl h told n tb = 0 → mt_wo tb n h (mt_mk h T sz) 23 ≤ mt_mst → ∀ σ, IC h (told + 1) 0 cap tb cl pr (mt_st sz told n) (mt_sT T told tb) σ → (∀ j, 215 ≤ j → σ j = σ0 j) → Q told σ) : f_X11_word σ0 n Q := by
  obtain ⟨a1, a2, h2, h5, t0, t16⟩ := i.1
  unfold f_X11_word f_X11_word_u0
  rw [a2]
  refine fun _ => ⟨fun q _ => ?_, fun q => k1 (fun z => z.1 q)⟩
  refine s_tell i t0 (Int.le_refl _) (by omega) (fun z _ => k1 (fun y => z y.2)) (fun z1 z2 z3 z4 σ hi hf _ => k2 q z1 z2 z3 z4 σ hi hf) (fun z1 z2 z3 z4 z5 σ hi hf _ => k3 q z1 z2 z3 z4 z5 σ hi hf) (fun z1 z2 z3 z4 z5 σ hi hf _ => k4 q z1 z2 z3 z4 z5 σ ?_ hf)
  rw [show max told (told + 1) = told + 1 by omega] at hi
  exact hi
theorem c_change {Q : Int → ml_St → Prop} {h told ts cap w n : Int} {tb cl pr sz : Int → Int} {T : Int → Int → Int} {σ0 : ml_St} (i : IC h told ts cap tb cl pr sz T σ0)
    (k1 : ¬ ((0 ≤ w ∧ w < told) ∧ 1 ≤ n ∧ n ≤ 100 ∧ n ≤ ts) → Q (-1) σ0)
    (k2 : 0 ≤ w → w < told → 1 ≤ n → n ≤ 100 → n ≤ ts → mt_fl h w n tb ≠ 0 → ∀ σ, IC h told 0 cap tb cl pr sz T σ → (∀ j, 215 ≤ j → σ j = σ0 j) → Q (mt_fl h w n tb) σ)
    (k3 : 0 ≤ w → w < told → 1 ≤ n → n ≤ 100 → n ≤ ts → mt_fl h w n tb = 0 → mt_mst < mt_wo tb n h (mt_mk h T sz) 23 → ∀ σ, IC h told 0 cap tb cl pr sz T σ → (∀ j, 215 ≤ j → σ j = σ0 j) → Q (-5000 - n) σ)
    (k4 : 0 ≤ w → w < told → 1 ≤ n → n ≤ 100 → n ≤ ts → mt_fl h w n tb = 0 → mt_wo tb n h (mt_mk h T sz) 23 ≤ mt_mst → ∀ σ, IC h told 0 cap tb cl pr (mt_st sz w n) (mt_sT T w tb) σ → (∀ j, 215 ≤ j → σ j = σ0 j) → Q w σ) : f_X11_change σ0 w n Q := by
  obtain ⟨a1, a2, h2, h5, t0, t16⟩ := i.1
  unfold f_X11_change f_X11_change_u0
  refine s_isTold a2 (fun q0 q1 _ => ⟨fun _ => ?_, fun c => absurd c (by omega)⟩) (fun q _ => ⟨fun c => absurd rfl c, fun _ => k1 (fun z => q z.1)⟩)
  refine s_tell i q0 (by omega) (by omega) (fun z _ => k1 (fun y => z y.2)) (fun z1 z2 z3 z4 σ hi hf _ => k2 q0 q1 z1 z2 z3 z4 σ hi hf) (fun z1 z2 z3 z4 z5 σ hi hf _ => k3 q0 q1 z1 z2 z3 z4 z5 σ hi hf) (fun z1 z2 z3 z4 z5 σ hi hf _ => k4 q0 q1 z1 z2 z3 z4 z5 σ ?_ hf)
  rw [show max told (w + 1) = told by omega] at hi
  exact hi
/-- bytes -/
theorem mb_255t : ∀ i : Nat, i < 8 → (255 : Nat).testBit i = true := by decide
theorem mb_i2b_and (z : Int) : b_i2b (b_and z 255) = b_i2b z := by
  unfold b_i2b b_and
  rw [Int32.ofInt_toInt]
  congr 1
  apply Int8.toBitVec_inj.1
  show (Int32.ofInt z &&& Int32.ofInt 255).toBitVec.signExtend 8 = (Int32.ofInt z).toBitVec.signExtend 8
  rw [Int32.toBitVec_and]
  generalize (Int32.ofInt z).toBitVec = x
  have : (Int32.ofInt 255).toBitVec = 255#32 := rfl
  rw [this, BitVec.signExtend_eq_setWidth_of_le _ (by omega), BitVec.signExtend_eq_setWidth_of_le _ (by omega)]
  ext i hi
  simp
  intro _
  rw [BitVec.getElem_eq_testBit_toNat]
  exact mb_255t i hi
theorem mb_and_255 (z : Int) : 0 ≤ b_and z 255 ∧ b_and z 255 ≤ 255 := by
  unfold b_and
  generalize Int32.ofInt z = x
  have e : (x &&& Int32.ofInt 255).toBitVec.toNat ≤ 255 := by
    rw [Int32.toBitVec_and, BitVec.toNat_and]
    exact Nat.and_le_right
  rw [mb_i (by omega)]
  omega
def mt_push (tb : Int → Int) (ts x : Int) : Int → Int := fun i => if i = ts then b_i2b (b_shr x 24) else if i = ts + 1 then b_i2b (b_shr x 16) else if i = ts + 2 then b_i2b (b_shr x 8) else if i = ts + 3 then b_i2b (b_shr x 0) else tb i
theorem s_add {Q : ml_St → Prop} {ts x : Int} {tb : Int → Int} {σ : ml_St} (b : ic_B ts tb σ) (h196 : ts ≤ 196) (k : ∀ σ', (∀ j, j ≠ 2 → j ≠ 3 → σ' j = σ j) → ic_B (ts + 4) (mt_push tb ts x) σ' → Q σ') : f_X8_add σ x Q := by
  obtain ⟨b1, b2, b3, b4⟩ := b
  have one : ∀ (N : Nat) (s t : Int) (τ : ml_St), 0 ≤ s → s ≤ 24 → τ 2 1 = t → 0 ≤ t → t < 200 → f_X8_add_u3 Q (f_X8_add_u49 Q) N (ml_up (ml_up τ 3 t (b_and (b_shr x s) 255)) 2 1 (t + 1)) x (s - 8) → f_X8_add_u3 Q (f_X8_add_u49 Q) (N + 1) τ x s := by
    intro N s t τ s0 s1 e t0 t1 kk
    unfold f_X8_add_u3
    rw [e]
    refine ⟨fun c => absurd c (by omega), fun _ _ => ⟨fun c => absurd c (by omega), fun _ _ => ⟨t0, t1, fun σ5 s5 => ?_⟩⟩⟩
    rw [s5, ml_up_k (by omega), e]
    refine fun _ => ⟨mt_I (by omega) (by omega), fun σ8 s8 => ⟨mt_I (by omega) (by omega), fun y9 e9 => ?_⟩⟩
    rw [s8, e9]
    exact kk
  unfold f_X8_add f_X8_add_u0
  refine ⟨5, one 4 24 ts σ (by omega) (by omega) b1 b2 (by omega) (one 3 16 (ts + 1) _ (by omega) (by omega) (ml_up_same _ _ _ _) (by omega) (by omega) (one 2 8 (ts + 2) _ (by omega) (by omega) ?_ (by omega) (by omega) (one 1 0 (ts + 3) _ (by omega) (by omega) ?_ (by omega) (by omega) ?_)))⟩
  · rw [ml_up_same]; omega
  · rw [ml_up_same]; omega
  · unfold f_X8_add_u3
    refine ⟨fun _ => ?_, fun c => absurd c (by omega)⟩
    unfold f_X8_add_u49
    refine k _ (fun j h1 h2 => by rw [ml_up_k h1, ml_up_k h2, ml_up_k h1, ml_up_k h2, ml_up_k h1, ml_up_k h2, ml_up_k h1, ml_up_k h2]) ⟨by rw [ml_up_same]; omega, by omega, by omega, fun i i0 i1 => ?_⟩
    have n32 : (3 : Int) ≠ 2 := by omega
    simp only [mt_up2, n32, false_and, if_false, true_and]
    unfold mt_push
    have p := fun z => mb_and_255 (b_shr x z)
    have q := fun z => mb_i2b_and (b_shr x z)
    by_cases c0 : i = ts
    · subst c0
      rw [if_neg (by omega), if_neg (by omega), if_neg (by omega), if_pos rfl, if_pos rfl]
      exact ⟨(p 24).1, (p 24).2, q 24⟩
    rw [if_neg c0]
    by_cases c1 : i = ts + 1
    · rw [if_neg (by omega), if_neg (by omega), if_pos c1, if_neg c0, if_pos c1]
      exact ⟨(p 16).1, (p 16).2, q 16⟩
    rw [if_neg c1]
    by_cases c2 : i = ts + 2
    · rw [if_neg (by omega), if_pos c2, if_neg c0, if_neg c1, if_pos c2]
      exact ⟨(p 8).1, (p 8).2, q 8⟩
    rw [if_neg c2]
    by_cases c3 : i = ts + 3
    · rw [if_pos c3, if_neg c0, if_neg c1, if_neg c2, if_pos c3]
      exact ⟨(p 0).1, (p 0).2, q 0⟩
    rw [if_neg c3, if_neg c0, if_neg c1, if_neg c2, if_neg c3]
    exact b4 i i0 (by omega)
def mt_fed (tb : Int → Int) (ts a b c d e : Int) : Int → Int := mt_push (mt_push (mt_push (mt_push (mt_push tb ts a) (ts + 4) b) (ts + 8) c) (ts + 12) d) (ts + 16) e
theorem c_feed {Q : Int → ml_St → Prop} {h told ts cap x1 x2 x3 x4 x5 : Int} {tb cl pr sz : Int → Int} {T : Int → Int → Int} {σ0 : ml_St} (i : IC h told ts cap tb cl pr sz T σ0) (k0 : 180 < ts → Q (-1) σ0) (k1 : ts ≤ 180 → ∀ σ, IC h told (ts + 20) cap (mt_fed tb ts x1 x2 x3 x4 x5) cl pr sz T σ → (∀ j, 215 ≤ j → σ j = σ0 j) → Q (ts + 20) σ) : f_X11_feed σ0 x1 x2 x3 x4 x5 Q := by
  obtain ⟨a, b, c, d, e, r, s⟩ := i
  have b1 := b.1
  have b2 := b.2.1
  have b3 := b.2.2.1
  unfold f_X11_feed f_X11_feed_u0
  rw [b1]
  refine fun _ => ⟨mt_I (by omega) (by omega), fun q => ?_, fun q => k0 (by omega)⟩
  refine s_add b (by omega) (fun σ1 f1 g1 => s_add g1 (by omega) (fun σ2 f2 g2 => s_add g2 (by omega) (fun σ3 f3 g3 => s_add g3 (by omega) (fun σ4 f4 g4 => s_add g4 (by omega) (fun σ5 f5 g5 => ?_)))))
  rw [g5.1]
  have e20 : ts + 4 + 4 + 4 + 4 + 4 = ts + 20 := by omega
  rw [e20] at g5 ⊢
  rw [show ts + 4 + 4 + 4 + 4 = ts + 16 by omega, show ts + 4 + 4 + 4 = ts + 12 by omega, show ts + 4 + 4 = ts + 8 by omega] at g5
  have f : ∀ j, j ≠ 2 → j ≠ 3 → σ5 j = σ0 j := fun j h1 h2 => by rw [f5 j h1 h2, f4 j h1 h2, f3 j h1 h2, f2 j h1 h2, f1 j h1 h2]
  have t16 : told ≤ 16 := a.2.2.2.2.2
  refine fun _ => k1 (by omega) σ5 ⟨ic_A_k (f 1 (by omega) (by omega)) a, g5, ic_C_k (f 4 (by omega) (by omega)) (f 5 (by omega) (by omega)) c, ic_D_k (fun w w0 w1 => by rw [f _ (by omega) (by omega)]) d, fun w w0 w1 => ⟨ic_T_k (by rw [f _ (by omega) (by omega)]) (by rw [f _ (by omega) (by omega)]) (f _ (by omega) (by omega)) (e w w0 w1).1, mt_wv_eq (f _ (by omega) (by omega)) (f _ (by omega) (by omega)) (f _ (by omega) (by omega)) (e w w0 w1).2⟩, ic_R_k (fun w w0 w1 => ⟨by rw [f _ (by omega) (by omega)], by rw [f _ (by omega) (by omega)], f _ (by omega) (by omega)⟩) r, ic_S_k (fun j h1 h2 => f j (by omega) (by omega)) s⟩ (fun j hj => f j (by omega) (by omega))
