/-! left: both sides answer alike -/
def mq_lv (h : Int) (v cl : Int → Int) (a n : Nat) (x : Int) : Int := min mt_top (if x ≤ a then mt_plo h v cl (x - 1).toNat else mt_plo h v cl (a + ((x - 1 - a) % (n - a)).toNat) + ((x - 1 - a) / (n - a)) * (mt_plo h v cl n - mt_plo h v cl a))
theorem s_loopsOf_x {Q : Int → ml_St → Prop} {h x : Int} {v cl : Int → Int} {a n : Nat} {σ : ml_St} (h0 : 0 ≤ h) (h5 : h ≤ 5) (hv : mt_M h v) (ov : mt_ok h v) (hc : mt_M h cl) (v0 : 0 ≤ v 20) (v1 : v 20 ≤ 5000000000000) (p : mq_q h v cl a n σ) (x1 : 1 ≤ x) (x2 : x ≤ 1000000000000000000) (k : Q (mq_lv h v cl a n x) σ) : f_X6_loopsOf σ x Q := by
  obtain ⟨p1, p2, p3, p4, p5, p6, p7, p8⟩ := p
  have g0 := (mt_plo_g h0 h5 hv ov hc v0 v1 (Nat.le_of_lt p1) p7 0 (by omega)).2
  obtain ⟨b1, b2, b3⟩ := mt_plo_r h0 h5 hv hc v0 v1 (show a ≤ 2000 by omega)
  obtain ⟨c1, c2, c3⟩ := mt_plo_r h0 h5 hv hc v0 v1 (show n ≤ 2000 by omega)
  rw [w64_id ⟨by omega, by omega⟩] at p5
  have g1 : 0 ≤ mt_plo h v cl n - mt_plo h v cl a ∧ mt_plo h v cl n - mt_plo h v cl a ≤ 20000000000000000 := by omega
  unfold mq_lv mt_top at k
  unfold f_X6_loopsOf f_X6_loopsOf_u0
  rw [p3, p4]
  refine fun _ => ⟨fun q _ _ => ⟨by omega, fun y7 e7 _ _ _ => ⟨by omega, ?_⟩⟩, fun q => ?_⟩
  · have ex : x - ((a : Int) + 1) = x - 1 - a := by omega
    have e1 : w64 (x - (a + 1)) = x - 1 - a := by rw [ex]; exact w64_id ⟨by omega, by omega⟩
    have tm : Int.tmod (x - 1 - a) (n - a) = (x - 1 - a) % (n - a) := Int.tmod_eq_emod_of_nonneg (by omega)
    have td : Int.tdiv (x - 1 - a) (n - a) = (x - 1 - a) / (n - a) := Int.tdiv_eq_ediv_of_nonneg (by omega)
    have m0 := Int.emod_nonneg (x - 1 - a) (show (n : Int) - a ≠ 0 by omega)
    have m1 := Int.emod_lt_of_pos (x - 1 - a) (show 0 < (n : Int) - a by omega)
    have d0 := Int.ediv_nonneg (show 0 ≤ x - 1 - a by omega) (show 0 ≤ (n : Int) - a by omega)
    have d1 := Int.ediv_le_self ((n : Int) - a) (show 0 ≤ x - 1 - a by omega)
    rw [e1, td, w64_id ⟨by omega, by omega⟩] at e7
    rw [e1, tm, mb_l2i2 (by omega) (by omega)]
    rw [if_neg (by omega)] at k
    generalize (x - 1 - (a : Int)) % (n - a) = r at *
    generalize (x - 1 - (a : Int)) / (n - a) = y at *
    have el := p6 (a + r.toNat) (by omega)
    rw [show ((a + r.toNat : Nat) : Int) + 1 = a + 1 + r by omega] at el
    obtain ⟨f1, f2, f3⟩ := mt_plo_r h0 h5 hv hc v0 v1 (show a + r.toNat ≤ 2000 by omega)
    rw [el, p5]
    generalize mt_plo h v cl (a + r.toNat) = u at *
    generalize mt_plo h v cl n - mt_plo h v cl a = g at *
    subst e7
    refine ⟨mt_I (by omega) (by omega), by omega, by omega, fun _ y15 e15 _ => ?_⟩
    subst e15
    unfold f_X6_loopsOf_u87
    rw [p5]
    refine ⟨fun z _ => ?_, fun z _ => ⟨by omega, ?_⟩⟩
    · have : g = 0 := by omega
      subst this
      rw [Int.mul_zero, w64_id (x := 0) ⟨by omega, by omega⟩, w64_id ⟨by omega, by omega⟩]
      rw [Int.mul_zero] at k
      rw [show min 9000000000000000000 (y15 + 0) = y15 + 0 by omega] at k
      exact k
    · have e2 : w64 (9000000000000000000 - y15) = 9000000000000000000 - y15 := w64_id ⟨by omega, by omega⟩
      have t2 : Int.tdiv (9000000000000000000 - y15) g = (9000000000000000000 - y15) / g := Int.tdiv_eq_ediv_of_nonneg (by omega)
      have q0 := Int.ediv_nonneg (show 0 ≤ 9000000000000000000 - y15 by omega) (show 0 ≤ g by omega)
      have q1 := Int.ediv_le_self g (show 0 ≤ 9000000000000000000 - y15 by omega)
      have iff := Int.le_ediv_iff_mul_le (a := y7) (b := 9000000000000000000 - y15) (show 0 < g by omega)
      have yg := Int.mul_nonneg d0 (show 0 ≤ g by omega)
      rw [e2, t2, w64_id ⟨by omega, by omega⟩]
      refine ⟨fun c _ => ?_, fun c => ?_⟩
      · have := iff.1 c
        rw [w64_id (x := y7 * g) ⟨by omega, by omega⟩, w64_id ⟨by omega, by omega⟩]
        rw [show min 9000000000000000000 (y15 + y7 * g) = y15 + y7 * g by omega] at k
        exact k
      · have : ¬ y7 * g ≤ 9000000000000000000 - y15 := fun z => c (iff.2 z)
        rw [show min 9000000000000000000 (y15 + y7 * g) = 9000000000000000000 by omega] at k
        exact k
  · rw [mb_l2i2 (by omega) (by omega)]
    rw [if_pos (by omega)] at k
    have el := p6 (x - 1).toNat (by omega)
    rw [show (((x - 1).toNat : Nat) : Int) + 1 = x by omega] at el
    obtain ⟨f1, f2, f3⟩ := mt_plo_r h0 h5 hv hc v0 v1 (show (x - 1).toNat ≤ 2000 by omega)
    rw [el]
    rw [show min 9000000000000000000 (mt_plo h v cl (x - 1).toNat) = mt_plo h v cl (x - 1).toNat by omega] at k
    exact ⟨by omega, by omega, fun _ => k⟩
