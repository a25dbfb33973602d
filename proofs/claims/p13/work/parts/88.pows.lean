/-! the class: power, rule, left, those, first, back (that they end) -/
theorem IC_study {Q : ml_St → Prop} {h told ts cap w : Int} {tb cl pr sz : Int → Int} {T : Int → Int → Int} {σ0 : ml_St} (i : IC h told ts cap tb cl pr sz T σ0) (w0 : 0 ≤ w) (w1 : w < told) (k : ∀ σ, mt_f46 σ0 σ → mt_pw σ → Q σ) : f_X6_study σ0 (119 + 6 * w + 2) (σ0 1 11) Q := by
  obtain ⟨g1, g2, g3, g4⟩ := IC_w i w0 w1
  have c := i.2.2.1
  rw [i.1.1, show 119 + 6 * w + 2 = 121 + 6 * w by omega]
  exact s_study i.1.2.2.1 i.1.2.2.2.1 (Or.inr (by omega)) (by omega) g3 g2 c.2.2.2.1 c.2.2.1 k
theorem c_power {Q : Int → ml_St → Prop} {h told ts cap w x : Int} {tb cl pr sz : Int → Int} {T : Int → Int → Int} {σ0 : ml_St} (i : IC h told ts cap tb cl pr sz T σ0) (k : ∀ r σ, IC h told ts cap tb cl pr sz T σ → (∀ j, 215 ≤ j → σ j = σ0 j) → Q r σ) : f_X11_power σ0 w x Q := by
  have no : ∀ r, Q r σ0 := fun r => k r σ0 i (fun _ _ => rfl)
  have t16 := i.1.2.2.2.2.2
  unfold f_X11_power f_X11_power_u0
  unfold f_X11_power_u17 f_X11_power_u64
  refine c_isMade i (fun q _ => ⟨fun z => absurd z (by omega), fun _ => ⟨fun _ => no _, fun _ => ⟨fun _ => ⟨q.1, by have := q.2.1; omega, fun _ => IC_study i q.1 q.2.1 (fun σ f p => ⟨fun _ _ => k _ σ (IC_kp (mt_f46_kp f) i) (mt_kp_m (mt_f46_kp f)), fun _ _ => k _ σ (IC_kp (mt_f46_kp f) i) (mt_kp_m (mt_f46_kp f))⟩)⟩, fun _ => no _⟩⟩⟩) (fun _ _ => ⟨fun _ => no _, fun z => absurd rfl z⟩)
theorem c_rule {Q : Int → ml_St → Prop} {h told ts cap w x : Int} {tb cl pr sz : Int → Int} {T : Int → Int → Int} {σ0 : ml_St} (i : IC h told ts cap tb cl pr sz T σ0) (k : ∀ r σ, IC h told ts cap tb cl pr sz T σ → (∀ j, 215 ≤ j → σ j = σ0 j) → Q r σ) : f_X11_rule σ0 w x Q := by
  have no : ∀ r, Q r σ0 := fun r => k r σ0 i (fun _ _ => rfl)
  have t16 := i.1.2.2.2.2.2
  unfold f_X11_rule f_X11_rule_u0
  unfold f_X11_rule_u17 f_X11_rule_u88
  refine c_isMade i (fun q _ => ⟨fun z => absurd z (by omega), fun _ => ⟨fun _ => no _, fun _ => ⟨fun _ => ⟨q.1, by have := q.2.1; omega, fun _ => IC_study i q.1 q.2.1 (fun σ f p => s_findRule p (fun σ2 f2 _ => ?_))⟩, fun _ => no _⟩⟩⟩) (fun _ _ => ⟨fun _ => no _, fun z => absurd rfl z⟩)
  have f' := mt_f46_kp (mt_f46_t f f2)
  exact ⟨fun _ => ⟨fun _ _ => k _ σ2 (IC_kp f' i) (mt_kp_m f'), fun _ _ => k _ σ2 (IC_kp f' i) (mt_kp_m f')⟩, fun _ _ => k _ σ2 (IC_kp f' i) (mt_kp_m f')⟩
theorem s_isPower {Q : Int → ml_St → Prop} {x : Int} {σ : ml_St} (k1 : 1 ≤ x → x ≤ 1000000000000000000 → Q 1 σ) (k0 : ¬ (1 ≤ x ∧ x ≤ 1000000000000000000) → Q 0 σ) : f_X11_isPower σ x Q := by
  unfold f_X11_isPower f_X11_isPower_u0
  unfold f_X11_isPower_u18 f_X11_isPower_u19
  exact ⟨fun c => k0 (by omega), fun c => ⟨fun d => k0 (by omega), fun d => k1 (by omega) (by omega)⟩⟩
theorem c_left {Q : Int → ml_St → Prop} {h told ts cap w x : Int} {tb cl pr sz : Int → Int} {T : Int → Int → Int} {σ0 : ml_St} (i : IC h told ts cap tb cl pr sz T σ0) (k : ∀ r σ, IC h told ts cap tb cl pr sz T σ → (∀ j, 215 ≤ j → σ j = σ0 j) → Q r σ) : f_X11_left σ0 w x Q := by
  have no : ∀ r, Q r σ0 := fun r => k r σ0 i (fun _ _ => rfl)
  have t16 := i.1.2.2.2.2.2
  unfold f_X11_left f_X11_left_u0
  unfold f_X11_left_u15
  refine c_isMade i (fun q _ => ⟨fun z => absurd z (by omega), fun _ => s_isPower (fun x0 x1 _ => ⟨fun _ => ⟨q.1, by have := q.2.1; omega, fun _ => IC_study i q.1 q.2.1 (fun σ f p => s_loopsOf p (by omega) ⟨by omega, by omega⟩ (fun r _ _ => k _ σ (IC_kp (mt_f46_kp f) i) (mt_kp_m (mt_f46_kp f))))⟩, fun z => absurd z (by omega)⟩) (fun _ _ => ⟨fun z => absurd rfl z, fun _ => no _⟩)⟩) (fun _ _ => ⟨fun _ => no _, fun z => absurd rfl z⟩)
theorem c_those {Q : Int → ml_St → Prop} {h told ts cap w x y z : Int} {tb cl pr sz : Int → Int} {T : Int → Int → Int} {σ0 : ml_St} (i : IC h told ts cap tb cl pr sz T σ0) (k : ∀ r σ, IC h told ts cap tb cl pr sz T σ → (∀ j, 215 ≤ j → σ j = σ0 j) → Q r σ) : f_X11_those σ0 w x y z Q := by
  have no : ∀ r, Q r σ0 := fun r => k r σ0 i (fun _ _ => rfl)
  have t16 := i.1.2.2.2.2.2
  unfold f_X11_those f_X11_those_u0
  unfold f_X11_those_u32
  refine c_isMade i (fun q _ => ⟨fun z => absurd z (by omega), fun _ => ⟨fun _ => no _, fun _ => ⟨fun _ => no _, fun _ => ?_⟩⟩⟩) (fun _ _ => ⟨fun _ => no _, fun z => absurd rfl z⟩)
  have go : f_X6_study σ0 (119 + 6 * w + 2) (σ0 1 11) (fun σ9 => f_X6_findRule σ9 (fun σ10 => f_X6_howMany σ10 x y z (fun r11 σ11 => ∀ _ : I64 r11, Q r11 σ11))) := IC_study i q.1 q.2.1 (fun σ f p => s_findRule p (fun σ2 f2 r2 => s_howMany6 r2 (fun r _ => k r σ2 (IC_kp (mt_f46_kp (mt_f46_t f f2)) i) (mt_kp_m (mt_f46_kp (mt_f46_t f f2))))))
  unfold f_X11_isStretch f_X11_isStretch_u0
  unfold f_X11_isStretch_u24 f_X11_isStretch_u25
  exact s_isPower (fun _ _ _ => ⟨fun z => absurd z (by omega), fun _ => s_isPower (fun _ _ _ => ⟨fun z => absurd z (by omega), fun _ => ⟨fun _ _ => ⟨fun z => absurd rfl z, fun _ => no _⟩, fun _ _ => ⟨fun _ => ⟨q.1, by have := q.2.1; omega, fun _ => go⟩, fun z => absurd z (by omega)⟩⟩⟩) (fun _ _ => ⟨fun _ _ => ⟨fun z => absurd rfl z, fun _ => no _⟩, fun z => absurd rfl z⟩)⟩) (fun _ _ => ⟨fun _ _ => ⟨fun z => absurd rfl z, fun _ => no _⟩, fun z => absurd rfl z⟩)
theorem c_first {Q : Int → ml_St → Prop} {h told ts cap w x : Int} {tb cl pr sz : Int → Int} {T : Int → Int → Int} {σ0 : ml_St} (i : IC h told ts cap tb cl pr sz T σ0) (k : ∀ r σ, IC h told ts cap tb cl pr sz T σ → (∀ j, 215 ≤ j → σ j = σ0 j) → Q r σ) : f_X11_first σ0 w x Q := by
  have no : ∀ r, Q r σ0 := fun r => k r σ0 i (fun _ _ => rfl)
  have t16 := i.1.2.2.2.2.2
  unfold f_X11_first f_X11_first_u0
  unfold f_X11_first_u22
  refine c_isMade i (fun q _ => ⟨fun z => absurd z (by omega), fun _ => ⟨fun _ => no _, fun _ => ⟨fun _ => ⟨q.1, by have := q.2.1; omega, fun _ => IC_study i q.1 q.2.1 (fun σ f p => s_findRule p (fun σ2 f2 r2 => s_firstWith r2 (fun r _ => k r σ2 (IC_kp (mt_f46_kp (mt_f46_t f f2)) i) (mt_kp_m (mt_f46_kp (mt_f46_t f f2))))))⟩, fun _ => no _⟩⟩⟩) (fun _ _ => ⟨fun _ => no _, fun z => absurd rfl z⟩)
theorem s_number8 {Q : Int → ml_St → Prop} {x ts : Int} {tb : Int → Int} {σ : ml_St} (x0 : 0 ≤ x) (x1 : x < 100) (k : ∀ r, Q r σ) : f_X8_number σ x Q := by
  have L : ∀ (N : Nat) (s n : Int), 4 * x ≤ n → n ≤ 4 * x + 4 → 4 * x + 4 - n < N → f_X8_number_u7 Q (f_X8_number_u46 Q) N σ x s n := by
    intro N
    induction N with
    | zero => intro s n n0 n1 hN; omega
    | succ N ih =>
      intro s n n0 n1 hN
      unfold f_X8_number_u7
      unfold f_X8_number_u46
      refine ⟨mt_I (by omega) (by omega), mt_I (by omega) (by omega), fun _ => k _, fun c => ⟨fun _ => k _, fun c2 => ⟨by omega, by omega, fun _ y8 _ => ⟨mt_I (by omega) (by omega), fun y9 e9 => ?_⟩⟩⟩⟩
      subst e9
      exact ih y8 (n + 1) (by omega) (by omega) (by omega)
  unfold f_X8_number f_X8_number_u0
  refine ⟨mt_I (by omega) (by omega), fun y2 e2 => ⟨10, ?_⟩⟩
  subst e2
  exact L 10 0 _ (by omega) (by omega) (by omega)
theorem c_back {Q : Int → ml_St → Prop} {h told ts cap n : Int} {tb cl pr sz : Int → Int} {T : Int → Int → Int} {σ0 : ml_St} (i : IC h told ts cap tb cl pr sz T σ0) (k0 : ¬ (1 ≤ n ∧ n ≤ 8 ∧ 4 * n ≤ ts) → Q (-1) σ0) (k1 : 1 ≤ n → n ≤ 8 → 4 * n ≤ ts → ∀ r σ, IC h told 0 cap tb cl pr sz T σ → (∀ j, 215 ≤ j → σ j = σ0 j) → Q r σ) : f_X11_back σ0 n Q := by
  have a := i.1
  have t16 := a.2.2.2.2.2
  unfold f_X11_back f_X11_back_u0
  rw [i.2.1.1]
  unfold f_X11_back_u24
  refine ⟨fun z => k0 (by omega), fun z => ⟨fun z2 => k0 (by omega), fun z2 _ => ⟨mt_I (by omega) (by omega), fun z3 => ⟨100, ?_⟩, fun z3 => k0 (by omega)⟩⟩⟩
  have k1 := k1 (by omega) (by omega) z3
  have L : ∀ (N : Nat) (v set : Int) (σ : ml_St), 0 ≤ v → v ≤ told → told - v < N → mt_f46 σ0 σ → f_X11_back_u30 Q (f_X11_back_u67 Q) N σ n set v := by
    intro N
    induction N with
    | zero => intro v set σ v0 v1 hN; omega
    | succ N ih =>
      intro v set σ v0 v1 hN f
      have iσ := IC_kp (mt_f46_kp f) i
      have nx : ∀ set σ, v < told → mt_f46 σ0 σ → f_X11_back_u61 Q (f_X11_back_u30 Q (f_X11_back_u67 Q) N) σ n set v := by
        intro set σ hv f
        unfold f_X11_back_u61
        refine ⟨mt_I (by omega) (by omega), fun y e => ?_⟩
        subst e
        exact ih (v + 1) set σ (by omega) (by omega) (by omega) f
      unfold f_X11_back_u30
      rw [iσ.1.2.1]
      refine fun _ => ⟨fun _ => ?_, fun c => c_isMade iσ (fun q _ => ⟨fun y => absurd y (by omega), fun _ => ?_⟩) (fun _ _ => ⟨fun _ => nx _ σ (by omega) f, fun y => absurd rfl y⟩)⟩
      · unfold f_X11_back_u67
        intro σ1 s1
        exact k1 set σ1 (IC_B0 (fun j h1 _ => by rw [s1, ml_up_k h1]) (by rw [s1, ml_up_same]) iσ) (fun j hj => by rw [s1, ml_up_k (by omega), f j (by omega)])
      · unfold f_X11_leavesAsTold f_X11_leavesAsTold_u0
        refine ⟨v0, by omega, fun _ => IC_study iσ v0 (by omega) (fun σ3 f3 p3 => ⟨20, ?_⟩)⟩
        have f' := mt_f46_t f f3
        have KK : ∀ r, ml_B r → (r = 0 → f_X11_back_u61 Q (f_X11_back_u30 Q (f_X11_back_u67 Q) N) σ3 n set v) ∧ (r ≠ 0 → ∀ y7 : Int, y7 = b_or set (b_shl 1 v) → f_X11_back_u61 Q (f_X11_back_u30 Q (f_X11_back_u67 Q) N) σ3 n y7 v) := fun r _ => ⟨fun _ => nx _ σ3 (by omega) f', fun _ _ _ => nx _ σ3 (by omega) f'⟩
        have I : ∀ (M : Nat) (m : Int), 0 ≤ m → m ≤ n → n - m < M → f_X11_leavesAsTold_u26 (fun r5 σ5 => ∀ _ : ml_B r5, (r5 = 0 → f_X11_back_u61 Q (f_X11_back_u30 Q (f_X11_back_u67 Q) N) σ5 n set v) ∧ (r5 ≠ 0 → ∀ y7 : Int, y7 = b_or set (b_shl 1 v) → f_X11_back_u61 Q (f_X11_back_u30 Q (f_X11_back_u67 Q) N) σ5 n y7 v)) (f_X11_leavesAsTold_u54 (fun r5 σ5 => ∀ _ : ml_B r5, (r5 = 0 → f_X11_back_u61 Q (f_X11_back_u30 Q (f_X11_back_u67 Q) N) σ5 n set v) ∧ (r5 ≠ 0 → ∀ y7 : Int, y7 = b_or set (b_shl 1 v) → f_X11_back_u61 Q (f_X11_back_u30 Q (f_X11_back_u67 Q) N) σ5 n y7 v))) (f_X11_leavesAsTold_u62 (fun r5 σ5 => ∀ _ : ml_B r5, (r5 = 0 → f_X11_back_u61 Q (f_X11_back_u30 Q (f_X11_back_u67 Q) N) σ5 n set v) ∧ (r5 ≠ 0 → ∀ y7 : Int, y7 = b_or set (b_shl 1 v) → f_X11_back_u61 Q (f_X11_back_u30 Q (f_X11_back_u67 Q) N) σ5 n y7 v))) M σ3 n m := by
          intro M
          induction M with
          | zero => intro m m0 m1 hM; omega
          | succ M ihM =>
            intro m m0 m1 hM
            unfold f_X11_leavesAsTold_u26
            unfold f_X11_leavesAsTold_u54 f_X11_leavesAsTold_u62
            refine ⟨fun _ => KK 1, fun c2 => ⟨mt_I (by omega) (by omega), s_loopsOf p3 (by omega) ⟨by omega, by omega⟩ (fun _ _ _ => s_number8 (ts := 0) (tb := tb) m0 (by omega) (fun _ _ => ⟨fun _ => ⟨mt_I (by omega) (by omega), fun y e => ?_⟩, fun _ => KK 0⟩))⟩⟩
            subst e
            exact ihM (m + 1) (by omega) (by omega) (by omega)
        exact I 20 0 (by omega) (by omega) (by omega)
  exact L 100 0 0 σ0 (by omega) a.2.2.2.2.1 (by omega) (fun _ _ => rfl)
