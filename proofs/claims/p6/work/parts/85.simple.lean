/-- the unsigned byte -/
def mt_ub (tb : Int → Int) (i : Int) : Int := b_and (tb i) 255
theorem mb_ub {x : Int} (h0 : 0 ≤ x) (h1 : x ≤ 255) : b_and (b_i2b x) 255 = x := by
  have k : ∀ n : Nat, n < 256 → b_and (b_i2b (n : Int)) 255 = n := by decide +kernel
  have := k x.toNat (by omega)
  rw [show ((x.toNat : Nat) : Int) = x by omega] at this
  exact this
theorem ic_B_u {ts : Int} {tb : Int → Int} {σ : ml_St} (b : ic_B ts tb σ) {i : Int} (i0 : 0 ≤ i) (i1 : i < ts) : σ 3 i = mt_ub tb i := by
  obtain ⟨g1, g2, g3⟩ := b.2.2.2 i i0 i1
  unfold mt_ub
  rw [← g3, mb_ub g1 g2]
/-- bytes that are caps -/
def mt_capx (h : Int) (u : Int → Int) (e : Int) : Prop := u e < 2 * h ∧ u e ≠ e ∧ (u e < h ↔ e < h) ∧ u (u e) = e
def mt_cap (h : Int) (u : Int → Int) : Prop := ∀ e, 0 ≤ e → e < 2 * h → mt_capx h u e
theorem mt_cap_M {h : Int} {u : Int → Int} (u0 : ∀ e, 0 ≤ e → e < 2 * h → 0 ≤ u e) (c : mt_cap h u) : mt_M h u := fun e e0 e1 => ⟨u0 e e0 e1, (c e e0 e1).1, (c e e0 e1).2.2.2, (c e e0 e1).2.1⟩
theorem IC_B0 {h told ts cap : Int} {tb cl pr sz : Int → Int} {T : Int → Int → Int} {σ0 σ : ml_St} (f : ∀ j, j ≠ 2 → (j ≤ 5 ∨ (55 ≤ j ∧ j ≤ 63) ∨ 118 < j) → σ j = σ0 j) (z : σ 2 1 = 0) (i : IC h told ts cap tb cl pr sz T σ0) : IC h told 0 cap tb cl pr sz T σ := by
  obtain ⟨a, b, c, d, e, r, s⟩ := i
  have t16 : told ≤ 16 := a.2.2.2.2.2
  exact ⟨ic_A_k (f 1 (by omega) (by omega)) a, ⟨z, by omega, by omega, fun i i0 i1 => absurd i1 (by omega)⟩, ic_C_k (f 4 (by omega) (by omega)) (f 5 (by omega) (by omega)) c, ic_D_k (fun w w0 w1 => by rw [f _ (by omega) (by omega)]) d, fun w w0 w1 => ⟨ic_T_k (by rw [f _ (by omega) (by omega)]) (by rw [f _ (by omega) (by omega)]) (f _ (by omega) (by omega)) (e w w0 w1).1, mt_wv_eq (f _ (by omega) (by omega)) (f _ (by omega) (by omega)) (f _ (by omega) (by omega)) (e w w0 w1).2⟩, ic_R_k (fun w w0 w1 => ⟨by rw [f _ (by omega) (by omega)], by rw [f _ (by omega) (by omega)], f _ (by omega) (by omega)⟩) r, ic_S_k (fun j h1 h2 => f j (by omega) (by omega)) s⟩
theorem c_caps {Q : Int → ml_St → Prop} {h told ts cap : Int} {tb cl pr sz : Int → Int} {T : Int → Int → Int} {σ0 : ml_St} (i : IC h told ts cap tb cl pr sz T σ0) (k0 : ¬ (h % 2 = 0 ∧ 2 * h ≤ ts) → Q 0 σ0) (k1 : h % 2 = 0 → 2 * h ≤ ts → ¬ mt_cap h (mt_ub tb) → ∀ σ, IC h told 0 cap tb cl pr sz T σ → (∀ j, 215 ≤ j → σ j = σ0 j) → Q 0 σ) (k2 : h % 2 = 0 → 2 * h ≤ ts → mt_cap h (mt_ub tb) → ∀ σ, IC h told 0 1 tb (mt_ub tb) pr sz T σ → (∀ j, 215 ≤ j → σ j = σ0 j) → Q 1 σ) : f_X11_caps σ0 Q := by
  have i0 := i
  obtain ⟨a, b, c, d, e, r, s⟩ := i
  obtain ⟨a1, a2, h2, h5, t0, t16⟩ := a
  have tm : Int.tmod h 2 = h % 2 := Int.tmod_eq_emod_of_nonneg (by omega)
  unfold f_X11_caps f_X11_caps_u0
  rw [a1, b.1, tm]
  unfold f_X11_caps_u25
  refine fun _ => ⟨by omega, mt_I (by omega) (by omega), fun q => k0 (fun z => q z.1), fun q _ _ => ⟨mt_I (by omega) (by omega), fun q2 _ => ?_, fun q2 => k0 (fun z => q2 z.2)⟩⟩
  have k1 := k1 q q2
  have k2 := k2 q q2
  have u : ∀ i, 0 ≤ i → i < 2 * h → σ0 3 i = mt_ub tb i ∧ 0 ≤ mt_ub tb i := fun i i0 i1 => by
    have e := ic_B_u b i0 (show i < ts by omega)
    exact ⟨e, by rw [← e]; exact (b.2.2.2 i i0 (by omega)).1⟩
  have NO : ¬ mt_cap h (mt_ub tb) → f_X0_goByCaps_u66 (fun r9 σ9 => ∀ _ : ml_B r9, ∀ σ10, σ10 = ml_up σ9 2 1 0 → Q r9 σ10) σ0 := by
    intro nc
    unfold f_X0_goByCaps_u66
    intro _ σ10 s10
    exact k1 nc σ10 (IC_B0 (fun j h1 _ => by rw [s10, ml_up_k h1]) (by rw [s10, ml_up_same]) i0) (fun j hj => by rw [s10, ml_up_k (by omega)])
  have L : ∀ (N : Nat) (n : Int), 0 ≤ n → n ≤ 2 * h → 2 * h - n < N → (∀ x, 0 ≤ x → x < n → mt_capx h (mt_ub tb) x) → f_X0_goByCaps_u2 (fun r9 σ9 => ∀ _ : ml_B r9, ∀ σ10, σ10 = ml_up σ9 2 1 0 → Q r9 σ10) (f_X0_goByCaps_u66 (fun r9 σ9 => ∀ _ : ml_B r9, ∀ σ10, σ10 = ml_up σ9 2 1 0 → Q r9 σ10)) (f_X0_goByCaps_u74 (fun r9 σ9 => ∀ _ : ml_B r9, ∀ σ10, σ10 = ml_up σ9 2 1 0 → Q r9 σ10)) N σ0 h n := by
    intro N
    induction N with
    | zero => intro n n0 n1 hN; omega
    | succ N ih =>
      intro n n0 n1 hN hc
      unfold f_X0_goByCaps_u2
      refine ⟨mt_i (by omega) (by omega), fun z => ?_, fun z => ⟨n0, by omega, fun _ y4 e4 => ⟨mt_i (by omega) (by omega), fun z2 => ?_, fun z2 => ⟨fun z3 => ?_, fun z3 => ?_⟩⟩⟩⟩
      · have hcap : mt_cap h (mt_ub tb) := fun x x0 x1 => hc x x0 (by omega)
        unfold f_X0_goByCaps_u74
        refine ⟨mt_i (by omega) (by omega), by omega, by omega, by omega, by omega, by omega, fun σ2 s2 σ3 s3 _ σ10 s10 => ?_⟩
        have f10 : ∀ j, j ≠ 2 → j ≠ 4 → j ≠ 5 → σ10 j = σ0 j := fun j h1 h3 h4 => by rw [s10, ml_up_k h1, s3, ml_up_k h3, s2, mt_cpy_k h4]
        refine k2 hcap σ10 ⟨ic_A_k (f10 1 (by omega) (by omega) (by omega)) ⟨a1, a2, h2, h5, t0, t16⟩, ⟨by rw [s10, ml_up_same], by omega, by omega, fun i i0 i1 => absurd i1 (by omega)⟩, ⟨?_, Or.inr rfl, fun x x0 x1 => ?_, mt_cap_M (fun x x0 x1 => (u x x0 x1).2) hcap, fun z => absurd z (by omega)⟩, ic_D_k (fun w w0 w1 => by rw [f10 _ (by omega) (by omega) (by omega)]) d, fun w w0 w1 => ⟨ic_T_k (by rw [f10 _ (by omega) (by omega) (by omega)]) (by rw [f10 _ (by omega) (by omega) (by omega)]) (f10 _ (by omega) (by omega) (by omega)) (e w w0 w1).1, mt_wv_eq (f10 _ (by omega) (by omega) (by omega)) (f10 _ (by omega) (by omega) (by omega)) (f10 _ (by omega) (by omega) (by omega)) (e w w0 w1).2⟩, ic_R_k (fun w w0 w1 => ⟨by rw [f10 _ (by omega) (by omega) (by omega)], by rw [f10 _ (by omega) (by omega) (by omega)], f10 _ (by omega) (by omega) (by omega)⟩) r, ic_S_k (fun j h1 h2 => f10 j (by omega) (by omega) (by omega)) s⟩ (fun j hj => f10 j (by omega) (by omega) (by omega))
        · rw [s10, ml_up_k (by omega), s3, ml_up_same]
        · rw [s10, ml_up_k (by omega), s3, ml_up_k (by omega), s2, mt_cpy2, if_pos ⟨rfl, x0, by omega⟩, ← (u x x0 x1).1]
          congr 1; omega
      · rw [(u n n0 (by omega)).1] at e4
        exact NO (fun z => by have := (z n n0 (by omega)).1; omega)
      · rw [(u n n0 (by omega)).1] at e4
        exact NO (fun z => (z n n0 (by omega)).2.1 (by omega))
      · rw [(u n n0 (by omega)).1] at e4
        have y0 : 0 ≤ y4 := by rw [e4]; exact (u n n0 (by omega)).2
        have go : ∀ s0 s1 : Int, (s0 = if y4 < h then 0 else 1) → (s1 = if n < h then 0 else 1) → f_X0_goByCaps_u52 (fun r9 σ9 => ∀ _ : ml_B r9, ∀ σ10, σ10 = ml_up σ9 2 1 0 → Q r9 σ10) (f_X0_goByCaps_u2 (fun r9 σ9 => ∀ _ : ml_B r9, ∀ σ10, σ10 = ml_up σ9 2 1 0 → Q r9 σ10) (f_X0_goByCaps_u66 (fun r9 σ9 => ∀ _ : ml_B r9, ∀ σ10, σ10 = ml_up σ9 2 1 0 → Q r9 σ10)) (f_X0_goByCaps_u74 (fun r9 σ9 => ∀ _ : ml_B r9, ∀ σ10, σ10 = ml_up σ9 2 1 0 → Q r9 σ10)) N) (f_X0_goByCaps_u66 (fun r9 σ9 => ∀ _ : ml_B r9, ∀ σ10, σ10 = ml_up σ9 2 1 0 → Q r9 σ10)) σ0 h n y4 s0 s1 := by
          intro s0 s1 e0 e1
          unfold f_X0_goByCaps_u52
          refine ⟨fun z4 => NO (fun z => ?_), fun z4 => ⟨y0, by omega, ?_⟩⟩
          · have := (z n n0 (by omega)).2.2.1
            rw [← e4] at this
            rw [e0, e1] at z4
            by_cases y : y4 < h
            · rw [if_pos y, if_pos (this.1 y)] at z4; exact z4 rfl
            · rw [if_neg y, if_neg (fun q => y (this.2 q))] at z4; exact z4 rfl
          · rw [(u y4 y0 (by omega)).1]
            refine fun _ => ⟨fun z5 => ⟨mt_i (by omega) (by omega), fun y e => ?_⟩, fun z5 => NO (fun z => z5 ?_)⟩
            · subst e
              refine ih (n + 1) (by omega) (by omega) (by omega) (fun x x0 x1 => ?_)
              by_cases w : x = n
              · subst w
                refine ⟨by omega, by omega, ?_, by rw [← e4]; exact z5⟩
                rw [← e4]
                rw [e0, e1] at z4
                constructor
                · intro q
                  rcases Int.lt_or_le x h with v | v
                  · exact v
                  · rw [if_pos q, if_neg (by omega)] at z4; omega
                · intro q
                  rcases Int.lt_or_le y4 h with v | v
                  · exact v
                  · rw [if_neg (by omega), if_pos q] at z4; omega
              · exact hc x x0 (by omega)
            · have := (z n n0 (by omega)).2.2.2
              rw [← e4] at this; exact this
        refine ⟨fun z4 => ?_, fun z4 => ?_⟩
        · unfold f_X0_goByCaps_u42
          exact ⟨fun z5 => go 0 0 (by rw [if_pos z4]) (by rw [if_pos z5]), fun z5 => go 0 1 (by rw [if_pos z4]) (by rw [if_neg z5])⟩
        · unfold f_X0_goByCaps_u42
          exact ⟨fun z5 => go 1 0 (by rw [if_neg z4]) (by rw [if_pos z5]), fun z5 => go 1 1 (by rw [if_neg z4]) (by rw [if_neg z5])⟩
  unfold f_X0_goByCaps f_X0_goByCaps_u0
  exact ⟨(2 * h).toNat + 1, L _ 0 (by omega) (by omega) (by omega) (fun x x0 x1 => absurd x1 (by omega))⟩
/-- WORD w is told and not TOO LONG -/
def mt_md (told : Int) (mk : Int → Int → Int) (w : Int) : Prop := 0 ≤ w ∧ w < told ∧ mk w 23 ≤ mt_mst
theorem IC_w {h told ts cap : Int} {tb cl pr sz : Int → Int} {T : Int → Int → Int} {σ : ml_St} (i : IC h told ts cap tb cl pr sz T σ) {w : Int} (w0 : 0 ≤ w) (w1 : w < told) : ic_T h T sz w σ ∧ mt_wv h σ (121 + 6 * w) (mt_mk h T sz w) ∧ mt_M h (mt_mk h T sz w) ∧ mt_ok h (mt_mk h T sz w) := by
  obtain ⟨a, b, c, d, e, r, s⟩ := i
  have t16 := a.2.2.2.2.2
  have := mt_mk_ok (T := T) (sz := sz) a.2.2.2.1 w.toNat (by omega) (fun v hv => (e v (by omega) (by omega)).1.1)
  rw [show ((w.toNat : Nat) : Int) = w by omega] at this
  exact ⟨(e w w0 w1).1, (e w w0 w1).2, this.1, this.2⟩
theorem c_isMade {Q : Int → ml_St → Prop} {h told ts cap w : Int} {tb cl pr sz : Int → Int} {T : Int → Int → Int} {σ : ml_St} (i : IC h told ts cap tb cl pr sz T σ) (k1 : mt_md told (mt_mk h T sz) w → Q 1 σ) (k0 : ¬ mt_md told (mt_mk h T sz) w → Q 0 σ) : f_X11_isMade σ w Q := by
  refine s_isMade i.1.2.2.2.2.2 i.1.2.1 (fun w0 w1 q => k1 ⟨w0, w1, ?_⟩) (fun q => k0 (fun z => q ⟨z.1, z.2.1, ?_⟩))
  · rw [← (IC_w i w0 w1).2.1.2.2.2.2.1]; exact q
  · rw [(IC_w i z.1 z.2.1).2.1.2.2.2.2.1]; exact z.2.2
theorem c_signs {Q : Int → ml_St → Prop} {h told ts cap w : Int} {tb cl pr sz : Int → Int} {T : Int → Int → Int} {σ : ml_St} (i : IC h told ts cap tb cl pr sz T σ) (k1 : 0 ≤ w → w < told → Q (mt_mk h T sz w 23) σ) (k0 : ¬ (0 ≤ w ∧ w < told) → Q (-1) σ) : f_X11_signs σ w Q := by
  have t16 := i.1.2.2.2.2.2
  unfold f_X11_signs f_X11_signs_u0
  refine s_isTold i.1.2.1 (fun w0 w1 _ => ⟨fun c => absurd c (by omega), fun _ => ⟨w0, by omega, ?_⟩⟩) (fun q _ => ⟨fun _ => ?_, fun c => absurd rfl c⟩)
  · rw [show 119 + 6 * w + 2 = 121 + 6 * w by omega, (IC_w i w0 w1).2.1.2.2.2.2.1]
    unfold f_X11_signs_u26
    exact fun _ => k1 w0 w1
  · unfold f_X11_signs_u26; exact k0 q
theorem c_joined {Q : Int → ml_St → Prop} {h told ts cap w e : Int} {tb cl pr sz : Int → Int} {T : Int → Int → Int} {σ : ml_St} (i : IC h told ts cap tb cl pr sz T σ) (k1 : mt_md told (mt_mk h T sz) w → 0 ≤ e → e < 2 * h → Q (mt_mk h T sz w e) σ) (k0 : ¬ (mt_md told (mt_mk h T sz) w ∧ 0 ≤ e ∧ e < 2 * h) → Q (-1) σ) : f_X11_joined σ w e Q := by
  have a := i.1
  unfold f_X11_joined f_X11_joined_u0
  refine c_isMade i (fun q _ => ⟨fun c => absurd c (by omega), fun _ => ?_⟩) (fun q _ => ⟨fun _ => ?_, fun c => absurd rfl c⟩)
  · refine s_isEnd a.2.2.1 a.2.2.2.1 a.1 (fun e0 e1 _ => ⟨fun c => absurd c (by omega), fun _ => ⟨q.1, by have := q.2.1; have := a.2.2.2.2.2; omega, e0, by have := a.2.2.2.1; omega, ?_⟩⟩) (fun q2 _ => ⟨fun _ => ?_, fun c => absurd rfl c⟩)
    · rw [show 119 + 6 * w + 2 + 1 = 121 + 6 * w + 1 by omega, ((IC_w i q.1 q.2.1).2.1.1 e e0 e1).1]
      unfold f_X11_joined_u34
      exact fun _ => k1 q e0 e1
    · unfold f_X11_joined_u33 f_X11_joined_u34; exact k0 (fun z => q2 z.2)
  · unfold f_X11_joined_u33 f_X11_joined_u34; exact k0 (fun z => q z.1)
theorem c_length {Q : Int → ml_St → Prop} {h told ts cap w e : Int} {tb cl pr sz : Int → Int} {T : Int → Int → Int} {σ : ml_St} (i : IC h told ts cap tb cl pr sz T σ) (k1 : mt_md told (mt_mk h T sz) w → 0 ≤ e → e < 2 * h → Q (mt_mk h T sz w (10 + e)) σ) (k0 : ¬ (mt_md told (mt_mk h T sz) w ∧ 0 ≤ e ∧ e < 2 * h) → Q (-1) σ) : f_X11_length σ w e Q := by
  have a := i.1
  unfold f_X11_length f_X11_length_u0
  refine c_isMade i (fun q _ => ⟨fun c => absurd c (by omega), fun _ => ?_⟩) (fun q _ => ⟨fun _ => ?_, fun c => absurd rfl c⟩)
  · refine s_isEnd a.2.2.1 a.2.2.2.1 a.1 (fun e0 e1 _ => ⟨fun c => absurd c (by omega), fun _ => ⟨q.1, by have := q.2.1; have := a.2.2.2.2.2; omega, e0, by have := a.2.2.2.1; omega, ?_⟩⟩) (fun q2 _ => ⟨fun _ => ?_, fun c => absurd rfl c⟩)
    · rw [show 119 + 6 * w + 2 + 2 = 121 + 6 * w + 2 by omega, ((IC_w i q.1 q.2.1).2.1.1 e e0 e1).2]
      unfold f_X11_length_u36
      exact fun _ => k1 q e0 e1
    · unfold f_X11_length_u33 f_X11_length_u36; exact k0 (fun z => q2 z.2)
  · unfold f_X11_length_u33 f_X11_length_u36; exact k0 (fun z => q z.1)
theorem c_loops {Q : Int → ml_St → Prop} {h told ts cap w x : Int} {tb cl pr sz : Int → Int} {T : Int → Int → Int} {σ : ml_St} (i : IC h told ts cap tb cl pr sz T σ) (k1 : mt_md told (mt_mk h T sz) w → 0 ≤ x → x ≤ 3 → Q (if x = 0 then mt_mk h T sz w 20 else if x = 1 then mt_mk h T sz w 21 else if x = 2 then mt_mk h T sz w 22 else w64 (mt_mk h T sz w 20 + mt_cl h (mt_mk h T sz w) cl)) σ) (k0 : ¬ (mt_md told (mt_mk h T sz) w ∧ 0 ≤ x ∧ x ≤ 3) → Q (-1) σ) : f_X11_loops σ w x Q := by
  have a := i.1
  have c := i.2.2.1
  unfold f_X11_loops f_X11_loops_u0
  refine c_isMade i (fun q _ => ⟨fun _ => ⟨q.1, by have := q.2.1; have := a.2.2.2.2.2; omega, ?_⟩, fun c => absurd c (by omega)⟩) (fun q _ => ⟨fun c => absurd rfl c, fun _ => k0 (fun z => q z.1)⟩)
  obtain ⟨g1, g2, g3, g4⟩ := IC_w i q.1 q.2.1
  rw [show 119 + 6 * w + 2 = 121 + 6 * w by omega, g2.2.1, g2.2.2.1, g2.2.2.2.1, a.1]
  refine ⟨fun z _ => ?_, fun z _ => ?_, fun z _ => ?_, fun z _ _ => ?_, fun z => k0 (fun y => by omega)⟩
  · have := k1 q (by omega) (by omega); rw [if_pos z] at this; exact this
  · have := k1 q (by omega) (by omega); rw [if_neg (by omega), if_pos z] at this; exact this
  · have := k1 q (by omega) (by omega); rw [if_neg (by omega), if_neg (by omega), if_pos z] at this; exact this
  · refine s_loopsBy a.2.2.1 a.2.2.2.1 g3 c.2.2.2.1 (mt_eq_wa g2).1 c.2.2.1 (fun _ => ?_)
    have := k1 q (by omega) (by omega); rw [if_neg (by omega), if_neg (by omega), if_neg (by omega)] at this; exact this
theorem c_is {Q : Int → ml_St → Prop} {h told ts cap w x : Int} {tb cl pr sz : Int → Int} {T : Int → Int → Int} {σ : ml_St} (i : IC h told ts cap tb cl pr sz T σ) (k1 : 0 ≤ w → w < told → 0 ≤ x → x ≤ 3 → Q (if x = 0 then (if mt_mk h T sz w 24 = 0 then 1 else 0) else if x = 1 then (if mt_mk h T sz w 25 = 0 then 1 else 0) else if x = 2 then (if mt_pl (T w) (sz w).toNat = 0 then 0 else 1) else (if mt_mk h T sz w 23 ≤ mt_mst then 0 else 1)) σ) (k0 : ¬ ((0 ≤ w ∧ w < told) ∧ 0 ≤ x ∧ x ≤ 3) → Q (-1) σ) : f_X11_is σ w x Q := by
  have a := i.1
  unfold f_X11_is f_X11_is_u0
  refine s_isTold a.2.1 (fun w0 w1 _ => ⟨fun _ => ?_, fun c => absurd c (by omega)⟩) (fun q _ => ⟨fun c => absurd rfl c, fun _ => k0 (fun z => q z.1)⟩)
  have w16 : w < 16 := by have := a.2.2.2.2.2; omega
  obtain ⟨g1, g2, g3, g4⟩ := IC_w i w0 w1
  have k1 := k1 w0 w1
  rw [show 119 + 6 * w + 2 = 121 + 6 * w by omega, g2.2.2.2.2.2.1, g2.2.2.2.2.2.2, g1.2.2.2]
  unfold f_X11_is_u60 f_X11_is_u81 f_X11_is_u99
  refine ⟨fun z => ⟨w0, w16, fun _ => ⟨fun y => ?_, fun y => ?_⟩⟩, fun z => ⟨w0, w16, fun _ => ⟨fun y => ?_, fun y => ?_⟩⟩, fun z => ⟨w0, w16, fun _ => ⟨fun y => ?_, fun y => ?_⟩⟩, fun z => ⟨w0, w16, ?_⟩, fun z => k0 (fun y => by omega)⟩
  · have := k1 (by omega) (by omega); rw [if_pos z, if_pos y] at this; exact this
  · have := k1 (by omega) (by omega); rw [if_pos z, if_neg y] at this; exact this
  · have := k1 (by omega) (by omega); rw [if_neg (by omega), if_pos z, if_pos y] at this; exact this
  · have := k1 (by omega) (by omega); rw [if_neg (by omega), if_pos z, if_neg y] at this; exact this
  · have := k1 (by omega) (by omega); rw [if_neg (by omega), if_neg (by omega), if_pos z, if_pos y] at this; exact this
  · have := k1 (by omega) (by omega); rw [if_neg (by omega), if_neg (by omega), if_pos z, if_neg y] at this; exact this
  · have k := k1 (by omega) (by omega)
    rw [if_neg (by omega), if_neg (by omega), if_neg (by omega), ← g2.2.2.2.2.1] at k
    refine s_isTooLong9 (fun c _ => ⟨fun d => absurd d (by omega), fun _ => ?_⟩) (fun c _ => ⟨fun _ => ?_, fun d => absurd rfl d⟩)
    · unfold f_X11_is_u120; rw [if_neg (by omega)] at k; exact k
    · unfold f_X11_is_u120; rw [if_pos c] at k; exact k
theorem c_both {Q : Int → ml_St → Prop} {h told ts cap a b x : Int} {tb cl pr sz : Int → Int} {T : Int → Int → Int} {σ0 : ml_St} (i : IC h told ts cap tb cl pr sz T σ0) (k1 : mt_md told (mt_mk h T sz) a → mt_md told (mt_mk h T sz) b → 0 ≤ x → x ≤ 3 → ∀ σ, IC h told ts cap tb cl pr sz T σ → (∀ j, 215 ≤ j → σ j = σ0 j) → Q (if x = 0 then mt_alike h (mt_mk h T sz a) (mt_mk h T sz b) else if x = 1 then mt_alike h (mt_both h (mt_mk h T sz a) (mt_mk h T sz b)) (mt_both h (mt_mk h T sz b) (mt_mk h T sz a)) else if x = 2 then mt_alike h (mt_both h (mt_mk h T sz a) (mt_mk h T sz b)) (mt_mk h T sz a) else mt_alike h (mt_both h (mt_mk h T sz a) (mt_mk h T sz b)) (mt_str h)) σ) (k0 : ¬ (mt_md told (mt_mk h T sz) a ∧ mt_md told (mt_mk h T sz) b ∧ 0 ≤ x ∧ x ≤ 3) → Q (-1) σ0) : f_X11_both σ0 a b x Q := by
  have ia := i.1
  have t16 := ia.2.2.2.2.2
  have h2 := ia.2.2.1
  have h5 := ia.2.2.2.1
  have al : ∀ v w, mt_alike h v w = 0 ∨ mt_alike h v w = 1 := fun v w => (mt_al_i (v := v) (w := w) (a := if v 20 = w 20 then 1 else 0) (by split <;> omega) (2 * h).toNat).1
  unfold f_X11_both f_X11_both_u0
  refine c_isMade i (fun q _ => ⟨fun c => absurd c (by omega), fun _ => ?_⟩) (fun q _ => ⟨fun _ => ?_, fun c => absurd rfl c⟩)
  · refine c_isMade i (fun q2 _ => ⟨fun _ => ⟨q.1, by have := q.2.1; omega, q2.1, by have := q2.2.1; omega, ?_⟩, fun c => absurd c (by omega)⟩) (fun q2 _ => ⟨fun c => absurd rfl c, fun _ => ?_⟩)
    · obtain ⟨g1, g2, g3, g4⟩ := IC_w i q.1 q.2.1
      obtain ⟨f1, f2, f3, f4⟩ := IC_w i q2.1 q2.2.1
      have qa := q.1
      have qb := q2.1
      rw [show 119 + 6 * a + 2 = 121 + 6 * a by omega, show 119 + 6 * b + 2 = 121 + 6 * b by omega, ia.1]
      unfold f_X11_both_u91 f_X11_both_u115 f_X11_both_u139 f_X11_both_u163
      refine ⟨fun z _ => ?_, fun z _ => ?_, fun z _ => ?_, fun z _ => ?_, fun z => k0 (fun y => by omega)⟩
      · have k := k1 q q2 (by omega) (by omega) σ0 i (fun _ _ => rfl)
        rw [if_pos z] at k
        refine s_isAlike h2 h5 g2 f2 (fun _ => ⟨fun c => ?_, fun c => ?_⟩)
        · rw [c] at k; exact k
        · rw [(al _ _).resolve_left c] at k; exact k
      · unfold f_X4_changePlaces f_X4_changePlaces_u0
        refine s_beBoth h2 h5 (by omega) (by omega) g3 f3 g2 f2 (fun σ1 p1 w1 => ?_)
        refine s_beBoth h2 h5 (by omega) (by omega) f3 g3 (mt_wv_fr p1 (by omega) f2) (mt_wv_fr p1 (by omega) g2) (fun σ2 p2 w2 => ?_)
        have kp : mt_kp σ0 σ2 := mt_kp_t (mt_kp_fr (by omega) (by omega) p1) (mt_kp_fr (by omega) (by omega) p2)
        have k := k1 q q2 (by omega) (by omega) σ2 (IC_kp kp i) (mt_kp_m kp)
        rw [if_neg (by omega), if_pos z] at k
        refine s_isAlike h2 h5 (mt_wv_fr p2 (by omega) w1) w2 (fun _ _ => ⟨fun c => ?_, fun c => ?_⟩)
        · rw [c] at k; exact k
        · rw [(al _ _).resolve_left c] at k; exact k
      · unfold f_X4_takesUp f_X4_takesUp_u0
        refine s_beBoth h2 h5 (by omega) (by omega) g3 f3 g2 f2 (fun σ1 p1 w1 => ?_)
        have kp : mt_kp σ0 σ1 := mt_kp_fr (by omega) (by omega) p1
        have k := k1 q q2 (by omega) (by omega) σ1 (IC_kp kp i) (mt_kp_m kp)
        rw [if_neg (by omega), if_neg (by omega), if_pos z] at k
        refine s_isAlike h2 h5 w1 (mt_wv_fr p1 (by omega) g2) (fun _ _ => ⟨fun c => ?_, fun c => ?_⟩)
        · rw [c] at k; exact k
        · rw [(al _ _).resolve_left c] at k; exact k
      · unfold f_X4_comesBack f_X4_comesBack_u0
        refine s_beBoth h2 h5 (by omega) (by omega) g3 f3 g2 f2 (fun σ1 p1 w1 => ?_)
        refine s_beStraight h2 h5 (fun σ2 p2 w2 => ?_)
        have kp : mt_kp σ0 σ2 := mt_kp_t (mt_kp_fr (by omega) (by omega) p1) (mt_kp_fr (by omega) (by omega) p2)
        have k := k1 q q2 (by omega) (by omega) σ2 (IC_kp kp i) (mt_kp_m kp)
        rw [if_neg (by omega), if_neg (by omega), if_neg (by omega)] at k
        refine s_isAlike h2 h5 (mt_wv_fr p2 (by omega) w1) w2 (fun _ _ => ⟨fun c => ?_, fun c => ?_⟩)
        · rw [c] at k; exact k
        · rw [(al _ _).resolve_left c] at k; exact k
    · unfold f_X11_both_u16; exact k0 (fun z => q2 z.2.1)
  · unfold f_X11_both_u16; exact k0 (fun z => q z.1)
theorem c_cost {Q : Int → ml_St → Prop} {h told ts cap w n : Int} {tb cl pr sz : Int → Int} {T : Int → Int → Int} {σ0 : ml_St} (i : IC h told ts cap tb cl pr sz T σ0) (k0 : ¬ ((0 ≤ w ∧ w < told) ∧ 1 ≤ n ∧ n ≤ 1000) → Q 0 σ0) (k1 : 0 ≤ w → w < told → 1 ≤ n → n ≤ 1000 → ∀ σ, IC h told ts cap tb cl (mt_st pr w n) sz T σ → (∀ j, 215 ≤ j → σ j = σ0 j) → Q 1 σ) : f_X11_cost σ0 w n Q := by
  obtain ⟨a, b, c, d, e, r, s⟩ := i
  have t16 := a.2.2.2.2.2
  unfold f_X11_cost f_X11_cost_u0
  unfold f_X11_cost_u20
  refine s_isTold a.2.1 (fun w0 w1 _ => ⟨fun c => absurd c (by omega), fun _ => ⟨fun z => k0 (by omega), fun z => ⟨fun z2 => ⟨w0, by omega, fun σ6 s6 => ?_⟩, fun z2 => k0 (by omega)⟩⟩⟩) (fun q _ => ⟨fun _ => k0 (fun z => q z.1), fun c => absurd rfl c⟩)
  have f : ∀ j, j ≠ 119 + 6 * w → σ6 j = σ0 j := fun j hj => by rw [s6, ml_up_k hj]
  have fb : ∀ v b, b ≠ 3 → σ6 (119 + 6 * v) b = σ0 (119 + 6 * v) b := fun v b hb => by rw [s6, ml_up_i hb]
  refine k1 w0 w1 (by omega) z2 σ6 ⟨ic_A_k (f 1 (by omega)) a, ic_B_k (f 2 (by omega)) (f 3 (by omega)) b, ic_C_k (f 4 (by omega)) (f 5 (by omega)) c, fun v v0 v1 => ?_, fun v v0 v1 => ⟨ic_T_k (fb v 1 (by omega)) (fb v 2 (by omega)) (f _ (by omega)) (e v v0 v1).1, mt_wv_eq (f _ (by omega)) (f _ (by omega)) (f _ (by omega)) (e v v0 v1).2⟩, ic_R_k (fun v v0 v1 => ⟨fb v 6 (by omega), fb v 7 (by omega), f _ (by omega)⟩) r, ic_S_k (fun j h1 h2 => f j (by omega)) s⟩ (fun j hj => f j (by omega))
  unfold mt_st
  by_cases q : v = w
  · rw [if_pos q, q, s6, ml_up_same]; omega
  · rw [if_neg q, f _ (by omega)]; exact d v v0 v1
