/-! left, of the class and of the model -/
theorem c_left_x {Q : Int → ml_St → Prop} {h told ts cap w x : Int} {tb cl pr sz : Int → Int} {T : Int → Int → Int} {σ0 : ml_St} (nb : mq_64) (i : IC h told ts cap tb cl pr sz T σ0) (k1 : mt_md told (mt_mk h T sz) w → 1 ≤ x → x ≤ 1000000000000000000 → ∀ σ (a n : Nat), IC h told ts cap tb cl pr sz T σ → (∀ j, 215 ≤ j → σ j = σ0 j) → mq_q h (mt_mk h T sz w) cl a n σ → Q (mq_lv h (mt_mk h T sz w) cl a n x) σ) (k0 : ¬ (mt_md told (mt_mk h T sz) w ∧ 1 ≤ x ∧ x ≤ 1000000000000000000) → Q (-1) σ0) : f_X11_left σ0 w x Q := by
  have t16 := i.1.2.2.2.2.2
  unfold f_X11_left f_X11_left_u0
  unfold f_X11_left_u15
  refine c_isMade i (fun q _ => ⟨fun z => absurd z (by omega), fun _ => s_isPower (fun x1 x2 _ => ⟨fun _ => ⟨q.1, by have := q.2.1; omega, fun _ => ?_⟩, fun z => absurd z (by omega)⟩) (fun q2 _ => ⟨fun z => absurd rfl z, fun _ => k0 (fun z => q2 z.2)⟩)⟩) (fun q _ => ⟨fun _ => k0 (fun z => q z.1), fun z => absurd rfl z⟩)
  obtain ⟨g1, g2, g3, g4⟩ := IC_w i q.1 q.2.1
  have c := i.2.2.1
  have cv := IC_cv i q.1 q.2.1
  have b20 := mq_20 cv q.2.2
  have h2 := i.1.2.2.1
  have h5 := i.1.2.2.2.1
  rw [i.1.1, show 119 + 6 * w + 2 = 121 + 6 * w by omega]
  refine s_study_x h2 h5 (Or.inr (by have := q.1; omega)) (by have := q.1; omega) g3 g2 c.2.2.2.1 c.2.2.1 (nb h _ h2 h5 g3) (fun σ a n f p => ?_)
  exact s_loopsOf_x (by omega) h5 g3 g4 c.2.2.2.1 b20.1 b20.2 p x1 x2 (fun _ => k1 q x1 x2 σ a n (IC_kp (mt_f46_kp f) i) (mt_kp_m (mt_f46_kp f)) p)
theorem m_left_x {Q : Int → ml_St → Prop} {h told ts cap w x : Int} {tb cl pr sz : Int → Int} {T : Int → Int → Int} {τ : ml_St} (i : IM h told ts cap tb cl pr sz T τ) (k1 : mt_md told (mt_mk h T sz) w → 1 ≤ x → x ≤ 1000000000000000000 → ∀ σ (a n : Nat), IM h told ts cap tb cl pr sz T σ → (∀ j, j < 215 → σ j = τ j) → mq_p h (mt_mk h T sz w) cl a n σ → Q (mq_lv h (mt_mk h T sz w) cl a n x) σ) (k0 : ¬ (mt_md told (mt_mk h T sz) w ∧ 1 ≤ x ∧ x ≤ 1000000000000000000) → Q (-1) τ) : f_X12_left τ w x Q := by
  have h2 := i.1.2.2.1
  have h5 := i.1.2.2.2.1
  unfold f_X12_left f_X12_left_u0
  unfold f_X12_left_u15
  refine m_isMade i (fun q _ => ⟨fun z => absurd z (by omega), fun _ => s_isPower12 (fun x0 x1 _ => ⟨fun _ => m_powers i q (fun σ a n i' j' p => ?_), fun z => absurd z (by omega)⟩) (fun q2 _ => ⟨fun z => absurd rfl z, fun _ => k0 (fun z => q2 z.2)⟩)⟩) (fun q _ => ⟨fun _ => k0 (fun z => q z.1), fun z => absurd rfl z⟩)
  have kk := k1 q x0 x1 σ a n i' j' p
  obtain ⟨g1, hv, ov, g4, g5⟩ := IM_w i q
  have hc := i.2.2.1.2.2.2
  obtain ⟨v0, v1⟩ := mq_20 (IM_cv i q.1 q.2.1).1 q.2.2
  generalize mt_mk h T sz w = v at *
  obtain ⟨p1, p2, p3, p4, p5, p6, p7, p8, p9⟩ := p
  have gg := (mt_plo_g (by omega) h5 hv ov hc v0 v1 (Nat.le_of_lt p1) p8 0 (by omega)).2
  obtain ⟨b1, b2, b3⟩ := mt_plo_r (by omega) h5 hv hc v0 v1 (show a ≤ 2000 by omega)
  obtain ⟨c1, c2, c3⟩ := mt_plo_r (by omega) h5 hv hc v0 v1 (show n ≤ 2000 by omega)
  have gr : 0 ≤ mt_plo h v cl n - mt_plo h v cl a ∧ mt_plo h v cl n - mt_plo h v cl a ≤ 20000000000000000 := by omega
  rw [w64_id ⟨by omega, by omega⟩] at p6
  have m0 := Int.emod_nonneg (x - 1 - a) (show (n : Int) - a ≠ 0 by omega)
  have m1 := Int.emod_lt_of_pos (x - 1 - a) (show 0 < (n : Int) - a by omega)
  have md := Int.mul_ediv_add_emod (x - 1 - a) ((n : Int) - a)
  rw [p3, p4, p5, p6]
  unfold mq_lv at kk
  refine fun _ => ⟨fun c _ _ _ => ?_, fun c => ?_⟩
  · rw [if_neg (by omega)] at kk
    have ex : x - ((a : Int) + 1) = x - 1 - a := by omega
    have e1 : w64 (x - (a + 1)) = x - 1 - a := by rw [ex]; exact w64_id ⟨by omega, by omega⟩
    have tm : Int.tmod (x - 1 - a) (n - a) = (x - 1 - a) % (n - a) := Int.tmod_eq_emod_of_nonneg (by omega)
    have d0 := Int.ediv_nonneg (show 0 ≤ x - 1 - a by omega) (show 0 ≤ (n : Int) - a by omega)
    have d1 := Int.ediv_le_self ((n : Int) - a) (show 0 ≤ x - 1 - a by omega)
    rw [e1, tm, mb_l2i2 (by omega) (by omega)]
    generalize (x - 1 - (a : Int)) % (n - a) = r at *
    generalize (x - 1 - (a : Int)) / (n - a) = y at *
    refine ⟨by omega, mt_I (by omega) (by omega), fun y14 e14 => ⟨by omega, by omega, ?_⟩⟩
    have el := p7 (a + r.toNat) (by omega)
    rw [show ((a + r.toNat : Nat) : Int) + 1 = y14 by omega] at el
    obtain ⟨f1, f2, f3⟩ := mt_plo_r (by omega) h5 hv hc v0 v1 (show a + r.toNat ≤ 2000 by omega)
    rw [el]
    have e2 : w64 (x - y14) = (n - a) * y := by
      rw [w64_id ⟨by omega, by omega⟩]; omega
    have e3 : Int.tdiv ((n - a) * y) (n - a) = y := by
      rw [Int.tdiv_eq_ediv_of_nonneg (Int.mul_nonneg (by omega) d0)]
      exact Int.mul_ediv_cancel_left y (by omega)
    rw [e2, e3, w64_id (x := y) ⟨by omega, by omega⟩]
    refine fun _ _ => ⟨by omega, fun _ => s_times (x := y) (by unfold mt_top; omega) d0 gr.1 (fun _ _ => s_plus (x := mt_plo h v cl (a + r.toNat)) (y := (mt_plo h v cl n - mt_plo h v cl a) * y) (by unfold mt_top; omega) rfl f2 (Int.mul_nonneg gr.1 d0) (fun _ _ => ?_))⟩
    rw [Int.mul_comm]; exact kk
  · rw [mb_l2i2 (by omega) (by omega)]
    have el := p7 (x - 1).toNat (by omega)
    rw [show (((x - 1).toNat : Nat) : Int) + 1 = x by omega] at el
    obtain ⟨f1, f2, f3⟩ := mt_plo_r (by omega) h5 hv hc v0 v1 (show (x - 1).toNat ≤ 2000 by omega)
    rw [el]
    refine ⟨by omega, by omega, fun _ => ?_⟩
    by_cases z : x ≤ a
    · rw [if_pos z, show min mt_top (mt_plo h v cl (x - 1).toNat) = mt_plo h v cl (x - 1).toNat by unfold mt_top; omega] at kk
      exact kk
    · rw [if_neg z] at kk
      have d0 := Int.ediv_nonneg (show 0 ≤ x - 1 - a by omega) (show 0 ≤ (n : Int) - a by omega)
      generalize (x - 1 - (a : Int)) % (n - a) = r at *
      generalize (x - 1 - (a : Int)) / (n - a) = y at *
      have ey : ((y.toNat * (n - a) : Nat) : Int) = (n - a) * y := by
        rw [Int.natCast_mul, show ((n - a : Nat) : Int) = (n : Int) - a by omega, show ((y.toNat : Nat) : Int) = y by omega, Int.mul_comm]
      have j := mt_plo_j (by omega) h5 hv ov hc v0 v1 (Nat.le_of_lt p1) p8 r.toNat y.toNat (by omega)
      rw [show a + r.toNat + y.toNat * (n - a) = (x - 1).toNat by omega, show ((y.toNat : Nat) : Int) = y by omega] at j
      rw [← j, show min mt_top (mt_plo h v cl (x - 1).toNat) = mt_plo h v cl (x - 1).toNat by unfold mt_top; omega] at kk
      exact kk
