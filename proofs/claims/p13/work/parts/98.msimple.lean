theorem IM_B0 {h told ts cap : Int} {tb cl pr sz : Int → Int} {T : Int → Int → Int} {τ0 τ : ml_St} (f : ∀ j, j ≠ 215 → τ j = τ0 j) (fb : ∀ x, x ≠ 1 → τ 215 x = τ0 215 x) (z : τ 215 1 = 0) (i : IM h told ts cap tb cl pr sz T τ0) : IM h told 0 cap tb cl pr sz T τ := by
  obtain ⟨a, b, c, d, e⟩ := i
  refine ⟨?_, ⟨z, by omega, by omega, fun i i0 i1 => absurd i1 (by omega)⟩, ?_, ?_, fun v v0 v1 => ?_⟩
  · unfold im_A; rw [fb 2 (by omega), fb 3 (by omega)]; exact a
  · unfold im_C mt_jv; rw [fb 4 (by omega), f 217 (by omega)]; exact c
  · unfold im_D; rw [f 220 (by omega)]; exact d
  · obtain ⟨x1, x2, x, x3, x4, x5⟩ := e v v0 v1
    refine ⟨?_, ?_, x, ?_, x4, x5⟩
    · unfold im_T; rw [f 218 (by omega), f 219 (by omega)]; exact x1
    · unfold im_N; rw [f 221 (by omega), f 222 (by omega)]; exact x2
    · unfold mt_mv; rw [f 227 (by omega), f 228 (by omega), f 229 (by omega), f 230 (by omega), f 231 (by omega)]; exact x3
theorem mt_ub_r {tb : Int → Int} {i : Int} (h : ml_I8 (tb i)) : 0 ≤ mt_ub tb i ∧ mt_ub tb i ≤ 255 := by
  unfold mt_ub; rw [mb_255 h]; have := h.1; have := h.2; split <;> omega
theorem m_caps {Q : Int → ml_St → Prop} {h told ts cap : Int} {tb cl pr sz : Int → Int} {T : Int → Int → Int} {τ0 : ml_St} (i : IM h told ts cap tb cl pr sz T τ0) (k0 : ¬ (h % 2 = 0 ∧ 2 * h ≤ ts) → Q 0 τ0) (k1 : h % 2 = 0 → 2 * h ≤ ts → ¬ mt_cap h (mt_ub tb) → ∀ τ, IM h told 0 cap tb cl pr sz T τ → (∀ j, j < 215 → τ j = τ0 j) → Q 0 τ) (k2 : h % 2 = 0 → 2 * h ≤ ts → mt_cap h (mt_ub tb) → ∀ τ, IM h told 0 1 tb (mt_ub tb) pr sz T τ → (∀ j, j < 215 → τ j = τ0 j) → Q 1 τ) : f_X12_caps τ0 Q := by
  have i0 := i
  obtain ⟨a, b, c, d, e⟩ := i
  obtain ⟨a1, a2, h2, h5, t0, t16⟩ := id a
  have tm : Int.tmod h 2 = h % 2 := Int.tmod_eq_emod_of_nonneg (by omega)
  unfold f_X12_caps f_X12_caps_u0
  unfold f_X12_caps_u23
  rw [a1, b.1, tm]
  refine fun _ => ⟨by omega, mt_I (by omega) (by omega), fun q => k0 (fun z => by omega), fun q _ _ => ⟨mt_i (by omega) (by omega), fun q2 σ8 s8 => ⟨(2 * h).toNat + 1, ?_⟩, fun q2 => k0 (fun z => q2 z.2)⟩⟩
  have k1 := k1 (by omega) q2
  have k2 := k2 (by omega) q2
  have f8 : ∀ j, j ≠ 215 → σ8 j = τ0 j := fun j hj => by rw [s8, ml_up_k hj]
  have b8 : ∀ x, x ≠ 1 → σ8 215 x = τ0 215 x := fun x hx => by rw [s8, ml_up_i hx]
  have i8 : IM h told 0 cap tb cl pr sz T σ8 := IM_B0 f8 b8 (by rw [s8, ml_up_same]) i0
  have e8 : σ8 215 2 = h := by rw [b8 2 (by omega), a1]
  have u : ∀ i, 0 ≤ i → i < 2 * h → b_and (σ8 216 i) 255 = mt_ub tb i ∧ 0 ≤ mt_ub tb i ∧ mt_ub tb i ≤ 255 ∧ σ8 216 i = tb i := fun i i0 i1 => by
    have g := b.2.2.2 i i0 (by omega)
    have r := mt_ub_r g.2
    rw [f8 216 (by omega), g.1]
    exact ⟨rfl, r.1, r.2, rfl⟩
  have NO : ¬ mt_cap h (mt_ub tb) → f_X12_caps_u111 Q σ8 := by
    intro nc
    unfold f_X12_caps_u111
    exact k1 nc σ8 i8 (fun j hj => f8 j (by omega))
  -- copying
  have CP : mt_cap h (mt_ub tb) → f_X12_caps_u119 Q σ8 := by
    intro hcap
    unfold f_X12_caps_u119
    have L : ∀ (N : Nat) (n : Int) (τ : ml_St), 0 ≤ n → n ≤ 2 * h → 2 * h - n < N → (∀ j, j ≠ 217 → τ j = σ8 j) → (∀ x, 0 ≤ x → x < n → τ 217 x = mt_ub tb x) → f_X12_caps_u121 Q (f_X12_caps_u149 Q) N τ n := by
      intro N
      induction N with
      | zero => intro n τ n0 n1 hN; omega
      | succ N ih =>
        intro n τ n0 n1 hN f hx
        unfold f_X12_caps_u121
        rw [f 215 (by omega), e8]
        refine fun _ => ⟨mt_i (by omega) (by omega), fun z => ?_, fun z => ⟨n0, by omega, fun _ => ⟨n0, by omega, fun σ5 s5 => ⟨mt_i (by omega) (by omega), fun y ey => ?_⟩⟩⟩⟩
        · unfold f_X12_caps_u149
          intro σ9 s9
          have f9 : ∀ j, j ≠ 215 → j ≠ 217 → σ9 j = τ0 j := fun j h1 h2 => by rw [s9, ml_up_k h1, f j h2, f8 j h1]
          have b9 : ∀ x, x ≠ 1 → x ≠ 4 → σ9 215 x = τ0 215 x := fun x h1 h2 => by rw [s9, ml_up_i h2, f 215 (by omega), b8 x h1]
          refine k2 hcap σ9 ⟨?_, ⟨by rw [s9, ml_up_i (by omega), f 215 (by omega), s8, ml_up_same], by omega, by omega, fun i i0 i1 => absurd i1 (by omega)⟩, ⟨by rw [s9, ml_up_same], Or.inr rfl, fun x x0 x1 => ⟨fun _ => ?_, fun w => ?_⟩, mt_cap_M (fun x x0 x1 => (u x x0 x1).2.1) hcap⟩, ?_, fun v v0 v1 => ?_⟩ (fun j hj => f9 j (by omega) (by omega))
          · unfold im_A; rw [b9 2 (by omega) (by omega), b9 3 (by omega) (by omega)]; exact a
          · rw [s9, ml_up_k (by omega)]; exact hx x x0 (by omega)
          · rw [s9, ml_up_same] at w; omega
          · unfold im_D; rw [f9 220 (by omega) (by omega)]; exact d
          · obtain ⟨x1, x2, x, x3, x4, x5⟩ := e v v0 v1
            refine ⟨?_, ?_, x, ?_, x4, x5⟩
            · unfold im_T; rw [f9 218 (by omega) (by omega), f9 219 (by omega) (by omega)]; exact x1
            · unfold im_N; rw [f9 221 (by omega) (by omega), f9 222 (by omega) (by omega)]; exact x2
            · unfold mt_mv; rw [f9 227 (by omega) (by omega), f9 228 (by omega) (by omega), f9 229 (by omega) (by omega), f9 230 (by omega) (by omega), f9 231 (by omega) (by omega)]; exact x3
        · subst ey
          refine ih (n + 1) σ5 (by omega) (by omega) (by omega) (fun j hj => by rw [s5, ml_up_k hj, f j hj]) (fun x x0 x1 => ?_)
          rw [s5]
          by_cases q : x = n
          · subst q
            obtain ⟨u1, u2, u3, u4⟩ := u x x0 (by omega)
            rw [ml_up_same, f 216 (by omega), u4]
            have hc := hcap x x0 (by omega)
            have hlt := hc.1
            have g := (b.2.2.2 x x0 (by omega)).2
            unfold mt_ub at hlt u2 ⊢
            rw [mb_255 g] at hlt u2 ⊢
            have := g.1
            split at hlt <;> split <;> omega
          · rw [ml_up_i q]; exact hx x x0 (by omega)
    exact ⟨(2 * h).toNat + 1, L _ 0 σ8 (by omega) (by omega) (by omega) (fun _ _ => rfl) (fun x x0 x1 => absurd x1 (by omega))⟩
  have L : ∀ (N : Nat) (n : Int), 0 ≤ n → n ≤ 2 * h → 2 * h - n < N → (∀ x, 0 ≤ x → x < n → mt_capx h (mt_ub tb) x) → f_X12_caps_u32 Q (f_X12_caps_u111 Q) (f_X12_caps_u119 Q) N σ8 n := by
    intro N
    induction N with
    | zero => intro n n0 n1 hN; omega
    | succ N ih =>
      intro n n0 n1 hN hc
      unfold f_X12_caps_u32
      rw [e8]
      refine fun _ => ⟨mt_i (by omega) (by omega), fun z => CP (fun x x0 x1 => hc x x0 (by omega)), fun z => ⟨n0, by omega, fun _ y4 e4 _ => ⟨mt_i (by omega) (by omega), fun z2 => ?_, fun z2 => ⟨fun z3 => ?_, fun z3 => ?_⟩⟩⟩⟩
      · rw [(u n n0 (by omega)).1] at e4
        exact NO (fun z => by have := (z n n0 (by omega)).1; omega)
      · rw [(u n n0 (by omega)).1] at e4
        exact NO (fun z => (z n n0 (by omega)).2.1 (by omega))
      · rw [(u n n0 (by omega)).1] at e4
        have y0 : 0 ≤ y4 := by rw [e4]; exact (u n n0 (by omega)).2.1
        have go : ∀ s0 s1 : Int, (s0 = if y4 < h then 1 else 0) → (s1 = if n < h then 1 else 0) → f_X12_caps_u94 Q (f_X12_caps_u32 Q (f_X12_caps_u111 Q) (f_X12_caps_u119 Q) N) (f_X12_caps_u111 Q) σ8 n y4 s0 s1 := by
          intro s0 s1 e0 e1
          unfold f_X12_caps_u94
          refine ⟨fun z4 => NO (fun z => ?_), fun z4 => ⟨y0, by omega, ?_⟩⟩
          · have := (z n n0 (by omega)).2.2.1
            rw [← e4] at this
            rw [e0, e1] at z4
            by_cases y : y4 < h
            · rw [if_pos y, if_pos (this.1 y)] at z4; exact z4 rfl
            · rw [if_neg y, if_neg (fun q => y (this.2 q))] at z4; exact z4 rfl
          · rw [(u y4 y0 (by omega)).1]
            refine fun _ => ⟨fun z5 => ⟨mt_i (by omega) (by omega), fun y e => ?_⟩, fun z5 => NO (fun z => z5 ?_)⟩
            · subst e
              refine ih (n + 1) (by omega) (by omega) (by omega) (fun x x0 x1 => ?_)
              by_cases w : x = n
              · subst w
                refine ⟨by omega, by omega, ?_, by rw [← e4]; exact z5⟩
                rw [← e4]
                rw [e0, e1] at z4
                constructor
                · intro q
                  rcases Int.lt_or_le x h with v | v
                  · exact v
                  · rw [if_pos q, if_neg (by omega)] at z4; omega
                · intro q
                  rcases Int.lt_or_le y4 h with v | v
                  · exact v
                  · rw [if_neg (by omega), if_pos q] at z4; omega
              · exact hc x x0 (by omega)
            · have := (z n n0 (by omega)).2.2.2
              rw [← e4] at this; exact this
        have go2 : ∀ s0 : Int, (s0 = if y4 < h then 1 else 0) → f_X12_caps_u81 Q (f_X12_caps_u32 Q (f_X12_caps_u111 Q) (f_X12_caps_u119 Q) N) (f_X12_caps_u111 Q) σ8 n y4 s0 := by
          intro s0 es
          unfold f_X12_caps_u81
          rw [e8]
          exact fun _ => ⟨fun z5 => go s0 0 es (by rw [if_neg (by omega)]), fun z5 => go s0 1 es (by rw [if_pos (by omega)])⟩
        exact fun _ => ⟨fun z4 => go2 0 (by rw [if_neg (by omega)]), fun z4 => go2 1 (by rw [if_pos (by omega)])⟩
  exact L _ 0 (by omega) (by omega) (by omega) (fun x x0 x1 => absurd x1 (by omega))
theorem IM_cv {h told ts cap : Int} {tb cl pr sz : Int → Int} {T : Int → Int → Int} {τ : ml_St} (i : IM h told ts cap tb cl pr sz T τ) {w : Int} (w0 : 0 ≤ w) (w1 : w < told) : mt_cv h (mt_mk h T sz w) (mt_cn mt_one T sz w) ∧ mt_cn mt_one T sz w = mt_cn mt_sx T sz w + mt_cn mt_su T sz w ∧ 0 ≤ mt_cn mt_sx T sz w ∧ 0 ≤ mt_cn mt_su T sz w := by
  have iT := IM_T i
  obtain ⟨a1, a2, h2, h5, t0, t16⟩ := i.1
  have sx0 : ∀ c, 0 ≤ mt_sx c := fun c => by unfold mt_sx; split <;> omega
  have su0 : ∀ c, 0 ≤ mt_su c := fun c => by unfold mt_su; split <;> omega
  have g1 := mt_cv_mk (T := T) (sz := sz) h2 h5 w.toNat (by omega) (fun u hu => iT u (by omega))
  have g2 := mt_cn_add (h := h) (T := T) (sz := sz) w.toNat (by omega) (fun u hu => iT u (by omega))
  have g3 := mt_cn_0 (h := h) (T := T) (sz := sz) sx0 w.toNat (by omega) (fun u hu => iT u (by omega))
  have g4 := mt_cn_0 (h := h) (T := T) (sz := sz) su0 w.toNat (by omega) (fun u hu => iT u (by omega))
  rw [show ((w.toNat : Nat) : Int) = w by omega] at g1 g2 g3 g4
  exact ⟨g1, g2, g3, g4⟩
theorem IM_w {h told ts cap : Int} {tb cl pr sz : Int → Int} {T : Int → Int → Int} {τ : ml_St} (i : IM h told ts cap tb cl pr sz T τ) {w : Int} (q : mt_md told (mt_mk h T sz) w) : mt_mv h τ w (mt_mk h T sz w) ∧ mt_M h (mt_mk h T sz w) ∧ mt_ok h (mt_mk h T sz w) ∧ 0 ≤ w ∧ w < 16 := by
  obtain ⟨w0, w1, w2⟩ := q
  have t16 := i.1.2.2.2.2.2
  have cv := (IM_cv i w0 w1).1
  obtain ⟨-, -, x, x3, x4, x5⟩ := i.2.2.2.2 w w0 w1
  exact ⟨mt_mv_eq (x5 ((mt_cv_23 cv).1 w2)) x3, cv.2.1, cv.2.2.1, w0, by omega⟩
theorem m_isWord {Q : Int → ml_St → Prop} {h told ts cap w : Int} {tb cl pr sz : Int → Int} {T : Int → Int → Int} {τ : ml_St} (i : IM h told ts cap tb cl pr sz T τ) (k1 : 0 ≤ w → w < told → Q 1 τ) (k0 : ¬ (0 ≤ w ∧ w < told) → Q 0 τ) : f_X12_isWord τ w Q := s_isWord i.1.2.2.2.2.1 i.1.2.2.2.2.2 i.1.2.1 k1 k0
theorem m_isTooLong {Q : Int → ml_St → Prop} {h told ts cap w : Int} {tb cl pr sz : Int → Int} {T : Int → Int → Int} {τ : ml_St} (i : IM h told ts cap tb cl pr sz T τ) (w0 : 0 ≤ w) (w1 : w < told) (k1 : mt_mst < mt_mk h T sz w 23 → Q 1 τ) (k0 : mt_mk h T sz w 23 ≤ mt_mst → Q 0 τ) : f_X12_isTooLong τ w Q := by
  obtain ⟨c1, c2, c3, c4⟩ := IM_cv i w0 w1
  have n := (i.2.2.2.2 w w0 w1).2.1
  have t16 := i.1.2.2.2.2.2
  have q := mt_cv_23 c1
  exact s_isTooLong12 w0 (by omega) n.1 n.2 c3 c4 (fun z => k1 (by omega)) (fun z => k0 (by omega))
theorem m_isMade {Q : Int → ml_St → Prop} {h told ts cap w : Int} {tb cl pr sz : Int → Int} {T : Int → Int → Int} {τ : ml_St} (i : IM h told ts cap tb cl pr sz T τ) (k1 : mt_md told (mt_mk h T sz) w → Q 1 τ) (k0 : ¬ mt_md told (mt_mk h T sz) w → Q 0 τ) : f_X12_isMade τ w Q := by
  unfold f_X12_isMade f_X12_isMade_u0
  unfold f_X12_isMade_u20 f_X12_isMade_u21
  exact m_isWord i (fun w0 w1 _ => ⟨fun z => absurd z (by omega), fun _ => m_isTooLong i w0 w1 (fun c _ => ⟨fun _ => k0 (fun z => by have := z.2.2; omega), fun z => absurd z (by omega)⟩) (fun c _ => ⟨fun z => absurd rfl z, fun _ => k1 ⟨w0, w1, c⟩⟩)⟩) (fun q _ => ⟨fun _ => k0 (fun z => q ⟨z.1, z.2.1⟩), fun z => absurd rfl z⟩)
theorem m_isEnd {Q : Int → ml_St → Prop} {h e : Int} {τ : ml_St} (h2 : 2 ≤ h) (h5 : h ≤ 5) (eh : τ 215 2 = h) (k1 : 0 ≤ e → e < 2 * h → Q 1 τ) (k0 : ¬ (0 ≤ e ∧ e < 2 * h) → Q 0 τ) : f_X12_isEnd τ e Q := by
  unfold f_X12_isEnd f_X12_isEnd_u0
  rw [eh]
  exact fun _ => ⟨mt_I (by omega) (by omega), mt_I (by omega) (by omega), s_lies (fun a b _ => k1 a (by omega)) (fun c _ => k0 (fun z => c ⟨z.1, by omega⟩))⟩
theorem m_signs {Q : Int → ml_St → Prop} {h told ts cap w : Int} {tb cl pr sz : Int → Int} {T : Int → Int → Int} {τ : ml_St} (i : IM h told ts cap tb cl pr sz T τ) (k1 : 0 ≤ w → w < told → Q (mt_mk h T sz w 23) τ) (k0 : ¬ (0 ≤ w ∧ w < told) → Q (-1) τ) : f_X12_signs τ w Q := by
  have t16 := i.1.2.2.2.2.2
  unfold f_X12_signs f_X12_signs_u0
  unfold f_X12_signs_u19
  refine m_isWord i (fun w0 w1 _ => ⟨fun z => absurd z (by omega), fun _ => ?_⟩) (fun q _ => ⟨fun _ => k0 q, fun z => absurd rfl z⟩)
  obtain ⟨c1, c2, c3, c4⟩ := IM_cv i w0 w1
  have n := (i.2.2.2.2 w w0 w1).2.1
  refine s_signsOf w0 (by omega) n.1 n.2 c3 c4 (fun _ => ?_)
  rw [← c2, ← c1.2.2.2.1]
  exact k1 w0 w1
theorem m_joined {Q : Int → ml_St → Prop} {h told ts cap w e : Int} {tb cl pr sz : Int → Int} {T : Int → Int → Int} {τ : ml_St} (i : IM h told ts cap tb cl pr sz T τ) (k1 : mt_md told (mt_mk h T sz) w → 0 ≤ e → e < 2 * h → Q (mt_mk h T sz w e) τ) (k0 : ¬ (mt_md told (mt_mk h T sz) w ∧ 0 ≤ e ∧ e < 2 * h) → Q (-1) τ) : f_X12_joined τ w e Q := by
  have a := i.1
  have h5 := a.2.2.2.1
  unfold f_X12_joined f_X12_joined_u0
  unfold f_X12_joined_u30 f_X12_joined_u31
  refine m_isMade i (fun q _ => ⟨fun z => absurd z (by omega), fun _ => m_isEnd a.2.2.1 h5 a.1 (fun e0 e1 _ => ⟨fun z => absurd z (by omega), fun _ => ?_⟩) (fun q2 _ => ⟨fun _ => k0 (fun z => q2 z.2), fun z => absurd rfl z⟩)⟩) (fun q _ => ⟨fun _ => k0 (fun z => q z.1), fun z => absurd rfl z⟩)
  obtain ⟨g1, g2, g3, g4, g5⟩ := IM_w i q
  rw [(g1.1 e e0 e1).1]
  exact ⟨mt_I (by omega) (by omega), mt_I (by omega) (by omega), by omega, by omega, fun _ => k1 q e0 e1⟩
theorem m_length {Q : Int → ml_St → Prop} {h told ts cap w e : Int} {tb cl pr sz : Int → Int} {T : Int → Int → Int} {τ : ml_St} (i : IM h told ts cap tb cl pr sz T τ) (k1 : mt_md told (mt_mk h T sz) w → 0 ≤ e → e < 2 * h → Q (mt_mk h T sz w (10 + e)) τ) (k0 : ¬ (mt_md told (mt_mk h T sz) w ∧ 0 ≤ e ∧ e < 2 * h) → Q (-1) τ) : f_X12_length τ w e Q := by
  have a := i.1
  have h5 := a.2.2.2.1
  unfold f_X12_length f_X12_length_u0
  unfold f_X12_length_u30 f_X12_length_u33
  refine m_isMade i (fun q _ => ⟨fun z => absurd z (by omega), fun _ => m_isEnd a.2.2.1 h5 a.1 (fun e0 e1 _ => ⟨fun z => absurd z (by omega), fun _ => ?_⟩) (fun q2 _ => ⟨fun _ => k0 (fun z => q2 z.2), fun z => absurd rfl z⟩)⟩) (fun q _ => ⟨fun _ => k0 (fun z => q z.1), fun z => absurd rfl z⟩)
  obtain ⟨g1, g2, g3, g4, g5⟩ := IM_w i q
  rw [(g1.1 e e0 e1).2]
  exact ⟨mt_I (by omega) (by omega), mt_I (by omega) (by omega), by omega, by omega, fun _ => k1 q e0 e1⟩
theorem mt_kq_234 {τ τ' : ml_St} (f : ∀ j, j ≠ 234 → τ' j = τ j) : mt_kq τ τ' := mt_kq_o (fun j hj => f j (by omega)) (fun b _ _ => by rw [f 215 (by omega)])
theorem m_loops {Q : Int → ml_St → Prop} {h told ts cap w x : Int} {tb cl pr sz : Int → Int} {T : Int → Int → Int} {τ : ml_St} (i : IM h told ts cap tb cl pr sz T τ) (k1 : mt_md told (mt_mk h T sz) w → 0 ≤ x → x ≤ 3 → ∀ τ', IM h told ts cap tb cl pr sz T τ' → (∀ j, j < 215 → τ' j = τ j) → Q (if x = 0 then mt_mk h T sz w 20 else if x = 1 then mt_mk h T sz w 21 else if x = 2 then mt_mk h T sz w 22 else w64 (mt_mk h T sz w 20 + mt_cl h (mt_mk h T sz w) cl)) τ') (k0 : ¬ (mt_md told (mt_mk h T sz) w ∧ 0 ≤ x ∧ x ≤ 3) → Q (-1) τ) : f_X12_loops τ w x Q := by
  have a := i.1
  have c := i.2.2.1
  unfold f_X12_loops f_X12_loops_u0
  refine m_isMade i (fun q _ => ⟨fun _ => ?_, fun z => absurd z (by omega)⟩) (fun q _ => ⟨fun z => absurd rfl z, fun _ => k0 (fun z => q z.1)⟩)
  obtain ⟨g1, g2, g3, g4, g5⟩ := IM_w i q
  rw [g1.2.1, g1.2.2.1, g1.2.2.2]
  refine ⟨fun z => ⟨g4, by omega, fun _ => ?_⟩, fun z => ⟨g4, by omega, fun _ => ?_⟩, fun z => ⟨g4, by omega, fun _ => ?_⟩, fun z => ⟨g4, by omega, fun _ => ?_⟩, fun z => k0 (fun y => by omega)⟩
  · have := k1 q (by omega) (by omega) τ i (fun _ _ => rfl); rw [if_pos z] at this; exact this
  · have := k1 q (by omega) (by omega) τ i (fun _ _ => rfl); rw [if_neg (by omega), if_pos z] at this; exact this
  · have := k1 q (by omega) (by omega) τ i (fun _ _ => rfl); rw [if_neg (by omega), if_neg (by omega), if_pos z] at this; exact this
  · refine s_closing a.2.2.1 a.2.2.2.1 ⟨g4, by omega⟩ a.1 g2 c.2.2.2 (fun e e0 e1 => (g1.1 e e0 e1).1) c.2.2.1 (fun τ' f _ => ?_)
    have := k1 q (by omega) (by omega) τ' (IM_kq (mt_kq_234 f) i) (fun j hj => f j (by omega)); rw [if_neg (by omega), if_neg (by omega), if_neg (by omega)] at this; exact this
theorem m_both {Q : Int → ml_St → Prop} {h told ts cap a b x : Int} {tb cl pr sz : Int → Int} {T : Int → Int → Int} {τ0 : ml_St} (i : IM h told ts cap tb cl pr sz T τ0) (k1 : mt_md told (mt_mk h T sz) a → mt_md told (mt_mk h T sz) b → 0 ≤ x → x ≤ 3 → ∀ τ, IM h told ts cap tb cl pr sz T τ → (∀ j, j < 215 → τ j = τ0 j) → Q (if x = 0 then mt_alike h (mt_mk h T sz a) (mt_mk h T sz b) else if x = 1 then mt_alike h (mt_both h (mt_mk h T sz a) (mt_mk h T sz b)) (mt_both h (mt_mk h T sz b) (mt_mk h T sz a)) else if x = 2 then mt_alike h (mt_both h (mt_mk h T sz a) (mt_mk h T sz b)) (mt_mk h T sz a) else mt_alike h (mt_both h (mt_mk h T sz a) (mt_mk h T sz b)) (mt_str h)) τ) (k0 : ¬ (mt_md told (mt_mk h T sz) a ∧ mt_md told (mt_mk h T sz) b ∧ 0 ≤ x ∧ x ≤ 3) → Q (-1) τ0) : f_X12_both τ0 a b x Q := by
  have ia := i.1
  have t16 := ia.2.2.2.2.2
  have h2 := ia.2.2.1
  have h5 := ia.2.2.2.1
  have al : ∀ v w, mt_alike h v w = 0 ∨ mt_alike h v w = 1 := fun v w => (mt_al_i (v := v) (w := w) (a := if v 20 = w 20 then 1 else 0) (by split <;> omega) (2 * h).toNat).1
  unfold f_X12_both f_X12_both_u0
  unfold f_X12_both_u28 f_X12_both_u48 f_X12_both_u86 f_X12_both_u107 f_X12_both_u130
  refine m_isMade i (fun q _ => ⟨fun z => absurd z (by omega), fun _ => m_isMade i (fun q2 _ => ⟨fun z => absurd z (by omega), fun _ => s_lies (fun x0 x3 _ => ⟨fun _ => ?_, fun z => absurd z (by omega)⟩) (fun q3 _ => ⟨fun z => absurd rfl z, fun _ => k0 (fun z => q3 z.2.2)⟩)⟩) (fun q2 _ => ⟨fun _ => k0 (fun z => q2 z.2.1), fun z => absurd rfl z⟩)⟩) (fun q _ => ⟨fun _ => k0 (fun z => q z.1), fun z => absurd rfl z⟩)
  obtain ⟨g1, g2, g3, g4, g5⟩ := IM_w i q
  obtain ⟨f1, f2, f3, f4, f5⟩ := IM_w i q2
  have kal : ∀ (v w : Int → Int) (τ : ml_St), Q (mt_alike h v w) τ → ((mt_alike h v w = 0 → Q 0 τ) ∧ (mt_alike h v w ≠ 0 → Q 1 τ)) := fun v w τ hq => ⟨fun c => by rw [c] at hq; exact hq, fun c => by rw [(al v w).resolve_left c] at hq; exact hq⟩
  refine ⟨fun z0 => s_lays h2 h5 ⟨g4, by omega⟩ ⟨f4, by omega⟩ ⟨by omega, by omega⟩ ia.1 g2 f2 g1 f1 (by omega) (by omega) (fun τ1 p1 w1 => ?_), fun z0 => ?_⟩
  · have e1 : τ1 215 2 = h := by rw [p1.2.1 2 (by omega), ia.1]
    have q1 : mt_kq τ0 τ1 := mt_kq_mf (by omega) p1
    refine ⟨fun z1 => ⟨fun z2 => s_straight h2 h5 ⟨by omega, by omega⟩ e1 (fun τ2 p2 w2 => ?_), fun z2 => ?_⟩, fun z1 => s_lays h2 h5 ⟨f4, by omega⟩ ⟨g4, by omega⟩ ⟨by omega, by omega⟩ e1 f2 g2 (mt_mv_f h5 p1 (by omega) f1) (mt_mv_f h5 p1 (by omega) g1) (by omega) (by omega) (fun τ2 p2 w2 => ?_)⟩
    · have kq : mt_kq τ0 τ2 := mt_kq_t q1 (mt_kq_mf (by omega) p2)
      have k := k1 q q2 x0 x3 τ2 (IM_kq kq i) kq.2.2.2
      rw [if_neg z0, if_neg z1, if_neg z2] at k
      exact s_areAlike h2 h5 ⟨by omega, by omega⟩ ⟨by omega, by omega⟩ (by rw [p2.2.1 2 (by omega), e1]) (mt_mv_f h5 p2 (by omega) w1) w2 (fun _ => kal _ _ _ k)
    · have k := k1 q q2 x0 x3 τ1 (IM_kq q1 i) q1.2.2.2
      rw [if_neg z0, if_neg z1, if_pos z2] at k
      exact s_areAlike h2 h5 ⟨by omega, by omega⟩ ⟨g4, by omega⟩ e1 w1 (mt_mv_f h5 p1 (by omega) g1) (fun _ => kal _ _ _ k)
    · have kq : mt_kq τ0 τ2 := mt_kq_t q1 (mt_kq_mf (by omega) p2)
      have k := k1 q q2 x0 x3 τ2 (IM_kq kq i) kq.2.2.2
      rw [if_neg z0, if_pos z1] at k
      exact s_areAlike h2 h5 ⟨by omega, by omega⟩ ⟨by omega, by omega⟩ (by rw [p2.2.1 2 (by omega), e1]) (mt_mv_f h5 p2 (by omega) w1) w2 (fun _ => kal _ _ _ k)
  · have k := k1 q q2 x0 x3 τ0 i (fun _ _ => rfl)
    rw [if_pos z0] at k
    exact s_areAlike h2 h5 ⟨g4, by omega⟩ ⟨f4, by omega⟩ ia.1 g1 f1 (fun _ => kal _ _ _ k)
theorem s_isPlain {Q : Int → ml_St → Prop} {w n : Int} {t : Int → Int} {τ : ml_St} (w0 : 0 ≤ w) (w1 : w < 16) (n0 : 0 ≤ n) (n1 : n ≤ 100) (en : τ 219 w = n) (et : ∀ j, 0 ≤ j → j < n → τ 218 (100 * w + j) = t j) (k1 : mt_pl t n.toNat ≠ 0 → Q 1 τ) (k0 : mt_pl t n.toNat = 0 → Q 0 τ) : f_X12_isPlain τ w Q := by
  have dn : ∀ (m : Nat) (i : Nat), i ≤ m → mt_pl t i = 0 → mt_pl t m = 0 := by
    intro m
    induction m with
    | zero => intro i hi h; have : i = 0 := by omega
              subst this; exact h
    | succ m ih =>
      intro i hi h
      by_cases q : i = m + 1
      · subst q; exact h
      · unfold mt_pl; rw [if_pos (ih i (by omega) h)]
  have L : ∀ (N : Nat) (i : Nat), (i : Int) ≤ n → n - i < N → mt_pl t i ≠ 0 → f_X12_isPlain_u2 Q (f_X12_isPlain_u43 Q) (f_X12_isPlain_u51 Q) N τ w i := by
    intro N
    induction N with
    | zero => intro i hi hN; omega
    | succ N ih =>
      intro i hi hN hp
      unfold f_X12_isPlain_u2
      rw [en]
      refine ⟨w0, w1, fun _ => ⟨fun c => ?_, fun c => ⟨mt_I (by omega) (by omega), mt_I (by omega) (by omega), by omega, by omega, ?_⟩⟩⟩
      · have : i = n.toNat := by omega
        subst this
        unfold f_X12_isPlain_u51
        exact k1 hp
      rw [et i (by omega) (by omega)]
      have nx : (t i = 120 ∨ t i = 117 ∨ (48 ≤ t i ∧ t i ≤ 57)) → f_X12_isPlain_u45 Q (f_X12_isPlain_u2 Q (f_X12_isPlain_u43 Q) (f_X12_isPlain_u51 Q) N) τ w i := by
        intro hc
        unfold f_X12_isPlain_u45
        refine ⟨mt_I (by omega) (by omega), fun y e => ?_⟩
        have e : y = ((i + 1 : Nat) : Int) := by omega
        subst e
        exact ih (i + 1) (by omega) (by omega) (by unfold mt_pl; rw [if_neg hp, if_pos hc]; omega)
      refine fun _ y6 e6 => ⟨fun c1 => nx (Or.inl (by omega)), fun c1 => ⟨fun c2 => nx (Or.inr (Or.inl (by omega))), fun c2 => s_dig12 (fun c3 _ => ⟨fun _ => nx (Or.inr (Or.inr (by omega))), fun z => absurd z (by omega)⟩) (fun c3 _ => ⟨fun z => absurd rfl z, fun _ => ?_⟩)⟩⟩
      unfold f_X12_isPlain_u43
      refine k0 (dn n.toNat (i + 1) (by omega) ?_)
      unfold mt_pl; rw [if_neg hp, if_neg (by omega)]
  unfold f_X12_isPlain f_X12_isPlain_u0
  exact ⟨n.toNat + 1, L _ 0 (by omega) (by omega) (by show (1 : Int) ≠ 0; omega)⟩
theorem m_cost {Q : Int → ml_St → Prop} {h told ts cap w n : Int} {tb cl pr sz : Int → Int} {T : Int → Int → Int} {τ0 : ml_St} (i : IM h told ts cap tb cl pr sz T τ0) (k0 : ¬ ((0 ≤ w ∧ w < told) ∧ 1 ≤ n ∧ n ≤ 1000) → Q 0 τ0) (k1 : 0 ≤ w → w < told → 1 ≤ n → n ≤ 1000 → ∀ τ, IM h told ts cap tb cl (mt_st pr w n) sz T τ → (∀ j, j < 215 → τ j = τ0 j) → Q 1 τ) : f_X12_cost τ0 w n Q := by
  have i0 := i
  obtain ⟨a, b, c, d, e⟩ := i
  have t16 := a.2.2.2.2.2
  unfold f_X12_cost f_X12_cost_u0
  unfold f_X12_cost_u20
  refine m_isWord i0 (fun w0 w1 _ => ⟨fun z => absurd z (by omega), fun _ => s_lies (fun x y _ => ⟨fun _ => ⟨w0, by omega, fun σ5 s5 => ?_⟩, fun z => absurd z (by omega)⟩) (fun q _ => ⟨fun z => absurd rfl z, fun _ => k0 (fun z => q z.2)⟩)⟩) (fun q _ => ⟨fun _ => k0 (fun z => q z.1), fun z => absurd rfl z⟩)
  have f : ∀ j, j ≠ 220 → σ5 j = τ0 j := fun j hj => by rw [s5, ml_up_k hj]
  refine k1 w0 w1 x y σ5 ⟨?_, ?_, ?_, fun v v0 v1 => ?_, fun v v0 v1 => ?_⟩ (fun j hj => f j (by omega))
  · unfold im_A; rw [f 215 (by omega)]; exact a
  · unfold im_B; rw [f 215 (by omega), f 216 (by omega)]; exact b
  · unfold im_C mt_jv; rw [f 215 (by omega), f 217 (by omega)]; exact c
  · unfold mt_st
    by_cases q : v = w
    · rw [if_pos q, q, s5, ml_up_same]; omega
    · rw [if_neg q, s5, ml_up_i q]; exact d v v0 v1
  · obtain ⟨x1, x2, x, x3, x4, x5⟩ := e v v0 v1
    refine ⟨?_, ?_, x, ?_, x4, x5⟩
    · unfold im_T; rw [f 218 (by omega), f 219 (by omega)]; exact x1
    · unfold im_N; rw [f 221 (by omega), f 222 (by omega)]; exact x2
    · unfold mt_mv; rw [f 227 (by omega), f 228 (by omega), f 229 (by omega), f 230 (by omega), f 231 (by omega)]; exact x3
theorem m_check {Q : Int → ml_St → Prop} {h told ts cap w : Int} {tb cl pr sz : Int → Int} {T : Int → Int → Int} {τ0 : ml_St} (i : IM h told ts cap tb cl pr sz T τ0) (k0 : ¬ (mt_md told (mt_mk h T sz) w ∧ 2 * h ≤ ts) → Q (-2) τ0) (k1 : mt_md told (mt_mk h T sz) w → 2 * h ≤ ts → ∀ x, (x = -1 ∧ (∀ e, 0 ≤ e → e < 2 * h → mt_ub tb e = mt_mk h T sz w e)) ∨ (0 ≤ x ∧ x < 2 * h ∧ mt_ub tb x ≠ mt_mk h T sz w x ∧ (∀ e, 0 ≤ e → e < x → mt_ub tb e = mt_mk h T sz w e)) → ∀ τ, IM h told 0 cap tb cl pr sz T τ → (∀ j, j < 215 → τ j = τ0 j) → Q x τ) : f_X12_check τ0 w Q := by
  have a := i.1
  have b := i.2.1
  have h2 := a.2.2.1
  have h5 := a.2.2.2.1
  unfold f_X12_check f_X12_check_u0
  unfold f_X12_check_u21
  refine m_isMade i (fun q _ => ⟨fun z => absurd z (by omega), fun _ => ?_⟩) (fun q _ => ⟨fun _ => k0 (fun z => q z.1), fun z => absurd rfl z⟩)
  rw [b.1, a.1]
  refine fun _ _ => ⟨mt_i (by omega) (by omega), fun c σ7 s7 => ⟨(2 * h).toNat + 1, ?_⟩, fun c => k0 (fun z => c z.2)⟩
  obtain ⟨g1, g2, g3, g4, g5⟩ := IM_w i q
  have f7 : ∀ j, j ≠ 215 → σ7 j = τ0 j := fun j hj => by rw [s7, ml_up_k hj]
  have b7 : ∀ x, x ≠ 1 → σ7 215 x = τ0 215 x := fun x hx => by rw [s7, ml_up_i hx]
  have i7 := IM_B0 f7 b7 (by rw [s7, ml_up_same]) i
  have k1 := fun x hx => k1 q c x hx σ7 i7 (fun j hj => f7 j (by omega))
  have L : ∀ (N : Nat) (n : Int), 0 ≤ n → n ≤ 2 * h → 2 * h - n < N → (∀ e, 0 ≤ e → e < n → mt_ub tb e = mt_mk h T sz w e) → f_X12_check_u31 Q (f_X12_check_u65 Q) (f_X12_check_u73 Q) N σ7 w n := by
    intro N
    induction N with
    | zero => intro n n0 n1 hN; omega
    | succ N ih =>
      intro n n0 n1 hN he
      unfold f_X12_check_u31
      rw [b7 2 (by omega), a.1]
      refine fun _ => ⟨mt_i (by omega) (by omega), fun z => ?_, fun z => ⟨mt_I (by omega) (by omega), mt_I (by omega) (by omega), by omega, by omega, ?_⟩⟩
      · unfold f_X12_check_u73
        exact k1 (-1) (Or.inl ⟨rfl, fun e e0 e1 => he e e0 (by omega)⟩)
      · rw [f7 227 (by omega), (g1.1 n n0 (by omega)).1, f7 216 (by omega), (b.2.2.2 n n0 (by omega)).1]
        refine fun _ => ⟨n0, by omega, fun _ => ⟨fun y => ⟨mt_i (by omega) (by omega), fun y9 e9 => ?_⟩, fun y => ?_⟩⟩
        · subst e9
          refine ih (n + 1) (by omega) (by omega) (by omega) (fun e e0 e1 => ?_)
          by_cases v : e = n
          · rw [v]; exact y.symm
          · exact he e e0 (by omega)
        · unfold f_X12_check_u65
          exact k1 n (Or.inr ⟨n0, by omega, fun v => y v.symm, he⟩)
  exact L _ 0 (by omega) (by omega) (by omega) (fun e e0 e1 => absurd e1 (by omega))
theorem m_count {Q : Int → ml_St → Prop} {h told ts cap x : Int} {tb cl pr sz : Int → Int} {T : Int → Int → Int} {τ : ml_St} (xI : I32 x) (i : IM h told ts cap tb cl pr sz T τ) (k : Q (an_count h told ts cap pr sz x) τ) : f_X12_count τ x Q := by
  obtain ⟨a, b, c, d, e⟩ := i
  have t16 := a.2.2.2.2.2
  have t0 := a.2.2.2.2.1
  have xl := xI.1
  have xu := xI.2
  unfold an_count at k
  unfold f_X12_count f_X12_count_u0
  unfold f_X12_count_u114
  rw [a.2.1]
  refine fun _ => ⟨mt_I (by omega) (by omega), s_lies (fun p1 p2 _ => ⟨fun z => absurd z (by omega), fun _ => ⟨⟨by omega, by omega⟩, by omega, by omega, fun _ => ?_⟩⟩) (fun p _ => ⟨fun _ => ?_, fun z => absurd rfl z⟩)⟩
  · rw [if_neg (by omega), if_neg (by omega), if_neg (by omega), if_neg (by omega), if_pos ⟨p1, by omega⟩] at k
    rw [(e (x - 10) (by omega) (by omega)).1.2.1]; exact k
  · rw [a.2.1]
    refine fun _ => ⟨mt_I (by omega) (by omega), s_lies (fun r1 r2 _ => ⟨fun z => absurd z (by omega), fun _ => ⟨⟨by omega, by omega⟩, by omega, by omega, fun _ => ?_⟩⟩) (fun r _ => ⟨fun _ => ?_, fun z => absurd rfl z⟩)⟩
    · rw [if_neg (by omega), if_neg (by omega), if_neg (by omega), if_neg (by omega), if_neg (by omega), if_pos ⟨r1, by omega⟩] at k
      rw [(d (x - 30) (by omega) (by omega)).1]; exact k
    · refine ⟨fun z0 => ⟨fun z1 => ⟨fun z2 => ⟨fun z3 => ?_, fun z3 => ?_⟩, fun z2 => ?_⟩, fun z1 => ?_⟩, fun z0 => ?_⟩
      · rw [if_neg z0, if_neg z1, if_neg z2, if_neg z3, if_neg (fun y => p ⟨y.1, by omega⟩), if_neg (fun y => r ⟨y.1, by omega⟩)] at k; exact k
      · rw [if_neg z0, if_neg z1, if_neg z2, if_pos z3] at k
        rw [c.1]
        refine fun _ => ⟨fun y => ?_, fun y => ?_⟩
        · rw [y] at k; exact k
        · rw [c.2.1.resolve_left y] at k; exact k
      · rw [if_neg z0, if_neg z1, if_pos z2] at k; rw [b.1]; exact fun _ => k
      · rw [if_neg z0, if_pos z1] at k; rw [a.2.1]; exact fun _ => k
      · rw [if_pos z0] at k; rw [a.1]; exact fun _ => k
