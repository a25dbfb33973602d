/-! the model: joinsAll, made, many -/
theorem mq_20 {h C : Int} {v : Int → Int} (cv : mt_cv h v C) (m : v 23 ≤ mt_mst) : 0 ≤ v 20 ∧ v 20 ≤ 5000000000000 := by
  have hc : C ≤ mt_mst := (mt_cv_23 cv).1 m
  have C0 := cv.1
  obtain ⟨l1, l2, l3⟩ := cv.2.2.2.2 hc
  unfold mt_mst at hc
  refine ⟨l1, ?_⟩
  by_cases z : C = 0
  · have := (l2 z).2.1
    have z0 : mt_str h 20 = 0 := by unfold mt_str; rw [if_neg (by omega)]
    omega
  · have := l3 (by omega); omega
/-- pairs alone, as a weave -/
def mq_w (f : Int → Int) (i : Int) : Int := if i < 10 then f i else 0
theorem mq_w_e {h : Int} {f : Int → Int} (h5 : h ≤ 5) : mt_eq h (mq_w f) f := fun e e0 e1 => by unfold mq_w; rw [if_pos (by omega)]
def mq_n (nl c q : Int) (σ : ml_St) : Prop := ∀ s l, 0 ≤ s → 0 ≤ l → l < nl → 6 * s + l < q → 0 ≤ σ 240 (6 * s + l) ∧ σ 240 (6 * s + l) < c ∧ 0 ≤ σ 241 (6 * s + l) ∧ σ 241 (6 * s + l) ≤ 4
def mq_1 (nl c : Int) (σ : ml_St) : Prop := ∀ l, 0 ≤ l → l < nl → 0 ≤ σ 242 l ∧ σ 242 l < c
theorem s_few {Q : Int → ml_St → Prop} {x : Int} {σ : ml_St} (x0 : 0 ≤ x) (k : Q (min x 4) σ) : f_X12_few σ x Q := by
  unfold f_X12_few f_X12_few_u0 f_X12_few_u14
  refine ⟨fun c => ?_, fun c => ?_⟩
  · rw [mb_l2i2 (by omega) (by omega)]
    rw [show min x 4 = x by omega] at k; exact k
  · rw [show min x 4 = 4 by omega] at k; exact k
/-- what the searches stand on -/
def mq_J (h told ts cap : Int) (tb cl pr sz : Int → Int) (T : Int → Int → Int) (τ0 : ml_St) (nl : Int) (F : Nat → Int → Int) (c : Nat) (σ : ml_St) : Prop := mq_L h told ts cap tb cl pr sz T τ0 nl σ ∧ mq_s h cl F c σ ∧ mq_1 nl c σ ∧ mq_n nl c (6 * c) σ
theorem s_joinsAll {Q : ml_St → Prop} {h told ts cap nl : Int} {tb cl pr sz : Int → Int} {T : Int → Int → Int} {τ0 σ0 : ml_St} (i : mq_L h told ts cap tb cl pr sz T τ0 nl σ0) (k : ∀ σ F c, mq_J h told ts cap tb cl pr sz T τ0 nl F c σ → Q σ) : f_X12_joinsAll σ0 Q := by
  have h2 := i.1.1.2.2.1
  have h5 := i.1.1.2.2.2.1
  have nl0 := i.2.2.2.1
  have nl6 := i.2.2.2.2.1
  have hc := i.1.2.2.1.2.2.2
  -- how stateOf is used
  have ST : ∀ (Q' : Int → ml_St → Prop) (m : Int) (f : Int → Int) (F : Nat → Int → Int) (c : Nat) (σ : ml_St), mq_L h told ts cap tb cl pr sz T τ0 nl σ → mq_s h cl F c σ → 0 ≤ m → m < 64 → mt_M h f → (∀ e, 0 ≤ e → e < 2 * h → σ 227 (10 * m + e) = f e) → (∀ σ' (n c' : Nat) (F' : Nat → Int → Int), mq_L h told ts cap tb cl pr sz T τ0 nl σ' → mq_s h cl F' c' σ' → c ≤ c' → (∀ i, i < c → F' i = F i) → n < c' → (∀ j, j ≠ 215 → j ≠ 234 → j ≠ 238 → j ≠ 239 → j ≠ 243 → σ' j = σ j) → I32 n → Q' n σ') → f_X12_stateOf σ m Q' := fun Q' m f F c σ L s m0 m1 hf ra k' => by
    refine s_stateOf h2 h5 ⟨m0, m1⟩ L.1.1.1 hf ra hc L.1.2.2.1.2.2.1 s (fun σ' n c' F' g gb s' cc ff nn _ iI => k' σ' n c' F' (mq_L_k (mt_kq_o (fun j hj => g j (by omega) (by omega) (by omega) (by omega) (by omega)) (fun b b1 b2 => gb b (by omega))) (gb 38 (by omega)) (g 237 (by omega) (by omega) (by omega) (by omega) (by omega)) L) s' cc ff nn g iI)
  -- the second loop
  have S2 : ∀ (N : Nat) (s : Int) (F : Nat → Int → Int) (c : Nat) (σ : ml_St), 0 ≤ s → s ≤ c → 946 - s < N → mq_L h told ts cap tb cl pr sz T τ0 nl σ → mq_s h cl F c σ → mq_1 nl c σ → mq_n nl c (6 * s) σ → f_X12_joinsAll_u39 Q (f_X12_joinsAll_u166 Q) N σ s := by
    intro N
    induction N with
    | zero => intro s F c σ s0 s1 hN L S; have := mq_s_le h2 h5 S; omega
    | succ N ih =>
      intro s F c σ s0 s1 hN L S f1 fn
      unfold f_X12_joinsAll_u39
      rw [S.1]
      refine fun _ => ⟨fun q => ?_, fun q => ⟨7, ?_⟩⟩
      · unfold f_X12_joinsAll_u166
        have : s = c := by omega
        rw [this] at fn
        exact k σ F c ⟨L, S, f1, fn⟩
      -- the letters of a state
      have LT : ∀ (M : Nat) (l : Int) (F : Nat → Int → Int) (c : Nat) (σ : ml_St), 0 ≤ l → l ≤ nl → nl - l < M → s < c → mq_L h told ts cap tb cl pr sz T τ0 nl σ → mq_s h cl F c σ → mq_1 nl c σ → mq_n nl c (6 * s + l) σ → f_X12_joinsAll_u49 Q (f_X12_joinsAll_u160 Q (f_X12_joinsAll_u39 Q (f_X12_joinsAll_u166 Q) N)) M σ s l := by
        intro M
        induction M with
        | zero => intro l F c σ l0 l1 hM; omega
        | succ M ihl =>
          intro l F c σ l0 l1 hM sc L S f1 fn
          have c945 := mq_s_le h2 h5 S
          unfold f_X12_joinsAll_u49
          rw [L.2.2.1]
          refine fun _ => ⟨fun q => ?_, fun q => s_straight h2 h5 ⟨by omega, by omega⟩ L.1.1.1 (fun σ3 p3 w3 => ⟨11, ?_⟩)⟩
          · unfold f_X12_joinsAll_u160
            refine ⟨mt_I (by omega) (by omega), fun y e => ?_⟩
            subst e
            exact ih (s + 1) F c σ (by omega) (by omega) (by omega) L S f1 (fun s' l' a b d e => fn s' l' a b d (by omega))
          have lt : l < nl := by omega
          have sN : ((s.toNat : Nat) : Int) = s := by omega
          obtain ⟨y1, y2, y3, y4⟩ := S.2.1 s.toNat (by omega)
          rw [sN] at y2 y3 y4
          -- the pairs are copied
          have CP : ∀ (N' : Nat) (e : Int) (τ : ml_St), 0 ≤ e → e ≤ 2 * h → 2 * h - e < N' → mt_mf 61 σ τ → (∀ e', 0 ≤ e' → e' < e → τ 227 (610 + e') = F s.toNat e') → (∀ e', 0 ≤ e' → e' < 2 * h → τ 228 (610 + e') = 0) → τ 229 61 = 0 → τ 230 61 = 0 → τ 231 61 = 0 → f_X12_joinsAll_u65 Q (f_X12_joinsAll_u102 Q (f_X12_joinsAll_u49 Q (f_X12_joinsAll_u160 Q (f_X12_joinsAll_u39 Q (f_X12_joinsAll_u166 Q) N)) M)) N' τ s l e := by
            intro N'
            induction N' with
            | zero => intro e τ e0 e1 hN'; omega
            | succ N' ihe =>
              intro e τ e0 e1 hN' g hi z1 z2 z3 z4
              have g239 := g.1 239 (by omega) (by omega) (by omega) (by omega) (by omega) (by omega) (by omega)
              unfold f_X12_joinsAll_u65
              rw [g.2.1 2 (by omega), L.1.1.1]
              refine fun _ => ⟨mt_I (by omega) (by omega), fun q => ?_, fun q => ⟨mt_I (by omega) (by omega), mt_I (by omega) (by omega), mt_I (by omega) (by omega), by omega, by omega, fun _ => ⟨by omega, by omega, fun σ8 s8 => ⟨mt_I (by omega) (by omega), fun y ey => ?_⟩⟩⟩⟩
              · -- joined with the letter
                have ee : e = 2 * h := by omega
                subst ee
                have L' := mq_L_mf (by omega) g L
                have e237 : τ 237 = σ 237 := g.1 237 (by omega) (by omega) (by omega) (by omega) (by omega) (by omega) (by omega)
                have md := L.2.2.2.2.2 l l0 lt
                have cv := (IM_cv L.1 md.1 md.2.1).1
                have b20 := mq_20 cv md.2.2
                obtain ⟨g1, g2, g3, g4, g5⟩ := IM_w L'.1 md
                have wM : mt_M h (mq_w (F s.toNat)) := mt_eq_M (mq_w_e h5) y1
                have w61 : mt_mv h τ 61 (mq_w (F s.toNat)) := by
                  refine ⟨fun e' e0' e1' => ⟨?_, ?_⟩, ?_, ?_, ?_⟩
                  · rw [show (10 : Int) * 61 + e' = 610 + e' by omega, hi e' e0' e1', mq_w_e h5 e' e0' e1']
                  · rw [show (10 : Int) * 61 + e' = 610 + e' by omega, z1 e' e0' e1']; unfold mq_w; rw [if_neg (by omega)]
                  · rw [z2]; unfold mq_w; rw [if_neg (by omega)]
                  · rw [z3]; unfold mq_w; rw [if_neg (by omega)]
                  · rw [z4]; unfold mq_w; rw [if_neg (by omega)]
                unfold f_X12_joinsAll_u102
                rw [e237]
                refine ⟨by omega, by omega, fun _ => s_lays h2 h5 ⟨by omega, by omega⟩ ⟨g4, by omega⟩ ⟨by omega, by omega⟩ L'.1.1.1 wM g2 w61 g1 (by omega) (by omega) (fun σ2 p2 w2 => ⟨mt_I (by omega) (by omega), mt_I (by omega) (by omega), ?_⟩)⟩
                have L2 := mq_L_mf (by omega) p2 L'
                have S2' : mq_s h cl F c σ2 := mq_s_k (by rw [p2.2.1 39 (by omega), g.2.1 39 (by omega)]) (by rw [p2.1 238 (by omega) (by omega) (by omega) (by omega) (by omega) (by omega) (by omega), g.1 238 (by omega) (by omega) (by omega) (by omega) (by omega) (by omega) (by omega)]) (by rw [p2.1 239 (by omega) (by omega) (by omega) (by omega) (by omega) (by omega) (by omega), g239]) (by rw [p2.1 243 (by omega) (by omega) (by omega) (by omega) (by omega) (by omega) (by omega), g.1 243 (by omega) (by omega) (by omega) (by omega) (by omega) (by omega) (by omega)]) S
                have uM := mt_both_M h5 wM g2
                have u20 : 0 ≤ mt_both h (mq_w (F s.toNat)) (mt_mk h T sz (σ 237 l)) 20 := by
                  have w20 : mq_w (F s.toNat) 20 = 0 := by unfold mq_w; rw [if_neg (by omega)]
                  have := mt_rs_lb (h := h) (a := mq_w (F s.toNat)) (b := mt_mk h T sz (σ 237 l)) (by omega) (by omega) h.toNat (by omega)
                  rw [mt_both_20]; omega
                generalize hu : mt_both h (mq_w (F s.toNat)) (mt_mk h T sz (σ 237 l)) = u at *
                refine ST _ 62 u F c σ2 L2 S2' (by omega) (by omega) uM (fun e e0 e1 => (w2.1 e e0 e1).1) (fun σ5 n c' F' L5 S5 cc ff nn g5' iI _ => ⟨by omega, by omega, fun σ6 s6 => ⟨mt_I (by omega) (by omega), mt_I (by omega) (by omega), by omega, by omega, fun _ => ?_⟩⟩)
                have c'945 := mq_s_le h2 h5 S5
                have e229 : σ6 229 62 = u 20 := by rw [s6, ml_up_k (by omega), g5' 229 (by omega) (by omega) (by omega) (by omega) (by omega), w2.2.1]
                rw [e229]
                refine s_few u20 (fun _ => ⟨by omega, by omega, fun σ11 s11 => ⟨mt_I (by omega) (by omega), fun y ey => ?_⟩⟩)
                subst ey
                have j11 : ∀ j, j ≠ 240 → j ≠ 241 → σ11 j = σ5 j := fun j h1 h2 => by rw [s11, ml_up_k h2, s6, ml_up_k h1]
                have oth : ∀ j, j = 240 ∨ j = 241 ∨ j = 242 → σ5 j = σ j := fun j hj => by rw [g5' j (by omega) (by omega) (by omega) (by omega) (by omega), p2.1 j (by omega) (by omega) (by omega) (by omega) (by omega) (by omega) (by omega), g.1 j (by omega) (by omega) (by omega) (by omega) (by omega) (by omega) (by omega)]
                refine ihl (l + 1) F' c' σ11 (by omega) (by omega) (by omega) (by omega) (mq_L_k (mt_kq_o (fun j hj => j11 j (by omega) (by omega)) (fun b _ _ => by rw [j11 215 (by omega) (by omega)])) (by rw [j11 215 (by omega) (by omega)]) (j11 237 (by omega) (by omega)) L5) (mq_s_k (by rw [j11 215 (by omega) (by omega)]) (j11 238 (by omega) (by omega)) (j11 239 (by omega) (by omega)) (j11 243 (by omega) (by omega)) S5) (fun l' a b => ?_) (fun s' l' a b d e => ?_)
                · rw [j11 242 (by omega) (by omega), oth 242 (by omega)]
                  have := f1 l' a b; omega
                · have e240 : σ11 240 = σ6 240 := by rw [s11, ml_up_k (by omega)]
                  rw [e240]
                  by_cases z : 6 * s' + l' = 6 * s + l
                  · rw [z, s6, ml_up_same, s11, ml_up_same]; omega
                  · have o := fn s' l' a b d (by omega)
                    rw [s11, ml_up_i z, s6, ml_up_i z, ml_up_k (by omega), oth 240 (by omega), oth 241 (by omega)]
                    omega
              · have a239 : τ 239 (10 * s + e) = F s.toNat e := by rw [g239]; exact y3 e e0 (by omega)
                rw [a239] at s8
                subst ey
                refine ihe (e + 1) σ8 (by omega) (by omega) (by omega) ⟨fun j h1 h2 h3 h4 h5 h6 h7 => by rw [s8, ml_up_k h2]; exact g.1 j h1 h2 h3 h4 h5 h6 h7, fun j hj => by rw [s8, ml_up_k (by omega)]; exact g.2.1 j hj, fun j hj => ?_, fun j hj => ?_⟩ (fun e' e0' e1' => ?_) (fun e' e0' e1' => by rw [s8, ml_up_k (by omega)]; exact z1 e' e0' e1') (by rw [s8, ml_up_k (by omega)]; exact z2) (by rw [s8, ml_up_k (by omega)]; exact z3) (by rw [s8, ml_up_k (by omega)]; exact z4)
                · rw [s8, ml_up_i (by omega), ml_up_k (by omega)]; exact g.2.2.1 j hj
                · rw [s8, ml_up_k (by omega), ml_up_k (by omega), ml_up_k (by omega)]; exact g.2.2.2 j hj
                · rw [s8]
                  by_cases z : e' = e
                  · rw [z, ml_up_same]
                  · rw [ml_up_i (by omega)]; exact hi e' e0' (by omega)
          have zz : ∀ i, 20 ≤ i → mt_str h i = 0 := fun i hi => by unfold mt_str; rw [if_neg (by omega)]
          exact CP 11 0 σ3 (by omega) (by omega) (by omega) p3 (fun e' a b => absurd b (by omega)) (fun e' a b => by rw [show (610 : Int) + e' = 10 * 61 + e' by omega, (w3.1 e' a b).2, (mt_str_e h5 a b).2]) (by rw [w3.2.1, zz 20 (by omega)]) (by rw [w3.2.2.1, zz 21 (by omega)]) (by rw [w3.2.2.2, zz 22 (by omega)])
      exact LT 7 0 F c σ (by omega) nl0 (by omega) (by omega) L S f1 (fun s' l' a b d e => fn s' l' a b d (by omega))
  -- the first loop
  have S1 : ∀ (N : Nat) (l : Int) (F : Nat → Int → Int) (c : Nat) (σ : ml_St), 0 ≤ l → l ≤ nl → nl - l < N → mq_L h told ts cap tb cl pr sz T τ0 nl σ → mq_s h cl F c σ → mq_1 l c σ → f_X12_joinsAll_u7 Q (f_X12_joinsAll_u37 Q) N σ l := by
    intro N
    induction N with
    | zero => intro l F c σ l0 l1 hN; omega
    | succ N ih =>
      intro l F c σ l0 l1 hN L S f1
      unfold f_X12_joinsAll_u7
      rw [L.2.2.1]
      refine fun _ => ⟨fun q => ?_, fun q => ⟨l0, by omega, fun _ => ?_⟩⟩
      · unfold f_X12_joinsAll_u37
        have : l = nl := by omega
        rw [this] at f1
        exact ⟨947, S2 947 0 F c σ (by omega) (by omega) (by omega) L S f1 (fun s' l' a b d e => absurd e (by omega))⟩
      have md := L.2.2.2.2.2 l l0 (by omega)
      obtain ⟨g1, g2, g3, g4, g5⟩ := IM_w L.1 md
      refine ST _ (σ 237 l) _ F c σ L S g4 (by omega) g2 (fun e e0 e1 => (g1.1 e e0 e1).1) (fun σ4 n c' F' L4 S4 cc ff nn g4' iI _ => ⟨l0, by omega, fun σ5 s5 => ⟨mt_I (by omega) (by omega), fun y ey => ?_⟩⟩)
      subst ey
      have j5 : ∀ j, j ≠ 242 → σ5 j = σ4 j := fun j h1 => by rw [s5, ml_up_k h1]
      refine ih (l + 1) F' c' σ5 (by omega) (by omega) (by omega) (mq_L_k (mt_kq_o (fun j hj => j5 j (by omega)) (fun b _ _ => by rw [j5 215 (by omega)])) (by rw [j5 215 (by omega)]) (j5 237 (by omega)) L4) (mq_s_k (by rw [j5 215 (by omega)]) (j5 238 (by omega)) (j5 239 (by omega)) (j5 243 (by omega)) S4) (fun l' a b => ?_)
      rw [s5]
      by_cases z : l' = l
      · rw [z, ml_up_same]; omega
      · rw [ml_up_i z, g4' 242 (by omega) (by omega) (by omega) (by omega) (by omega)]
        have := f1 l' a (by omega); omega
  unfold f_X12_joinsAll f_X12_joinsAll_u0
  intro σ1 s1
  refine ⟨7, S1 7 0 (fun _ _ => 0) 0 σ1 (by omega) nl0 (by omega) (mq_L_k (mt_kq_o (fun j hj => by rw [s1, ml_up_k (by omega)]) (fun b b1 b2 => by rw [s1, ml_up_i (by omega)])) (by rw [s1, ml_up_i (by omega)]) (by rw [s1, ml_up_k (by omega)]) i) ⟨by rw [s1, ml_up_same]; rfl, fun i hi => absurd hi (by omega), fun i j _ hj => absurd hj (by omega)⟩ (fun l a b => absurd b (by omega))⟩
theorem m_made {Q : Int → ml_St → Prop} {h told ts cap set : Int} {tb cl pr sz : Int → Int} {T : Int → Int → Int} {τ : ml_St} (i : IM h told ts cap tb cl pr sz T τ) (k : ∀ r σ, IM h told ts cap tb cl pr sz T σ → (∀ j, j < 215 → σ j = τ j) → Q r σ) : f_X12_made τ set Q := by
  unfold f_X12_made f_X12_made_u0
  exact s_isLetters i (fun σ i' f _ => ⟨fun z => absurd rfl z, fun _ => k _ σ i' f⟩) (fun σ nl L _ => ⟨fun _ => s_joinsAll L (fun σ3 F c J _ => k _ σ3 J.1.1 J.1.2.1), fun z => absurd z (by omega)⟩)
