/-! how many loops the powers leave: no long is left -/
theorem mt_rs_lb2 {h : Int} {a b : Int → Int} (l0 : 0 ≤ a 20 + b 20) (l1 : a 20 + b 20 ≤ 100000000000000000) : ∀ n : Nat, n ≤ 5 → a 20 + b 20 ≤ (mt_rs h a b n).2.1 ∧ (mt_rs h a b n).2.1 ≤ a 20 + b 20 + n := by
  intro n
  induction n with
  | zero =>
    intro _
    show a 20 + b 20 ≤ w64 (a 20 + b 20) ∧ w64 (a 20 + b 20) ≤ _
    rw [w64_id ⟨by omega, by omega⟩]; omega
  | succ n ih =>
    intro hn
    obtain ⟨i1, i2⟩ := ih (by omega)
    unfold mt_rs
    split
    · show a 20 + b 20 ≤ w64 ((mt_rs h a b n).2.1 + 1) ∧ w64 ((mt_rs h a b n).2.1 + 1) ≤ _
      rw [w64_id ⟨by omega, by omega⟩]; omega
    · omega
/-- power n + 1 leaves at least n + 1 times what v leaves, and not much more -/
theorem mt_pp_20 {h : Int} {v : Int → Int} (h0 : 0 ≤ h) (h5 : h ≤ 5) (v0 : 0 ≤ v 20) (v1 : v 20 ≤ 5000000000000) : ∀ n : Nat, n ≤ 2000 → (n + 1) * v 20 ≤ mt_pp h v n 20 ∧ mt_pp h v n 20 ≤ (n + 1) * v 20 + 5 * n := by
  intro n
  induction n with
  | zero => intro _; show ((0 : Nat) + 1 : Int) * v 20 ≤ v 20 ∧ v 20 ≤ ((0 : Nat) + 1 : Int) * v 20 + 5 * (0 : Nat); omega
  | succ n ih =>
    intro hn
    obtain ⟨i1, i2⟩ := ih (by omega)
    have a := Int.mul_le_mul_of_nonneg_right (show (n : Int) + 1 ≤ 2001 by omega) v0
    have b := Int.mul_nonneg (show (0 : Int) ≤ (n : Int) + 1 by omega) v0
    have e : (((n + 1 : Nat) : Int) + 1) * v 20 = ((n : Int) + 1) * v 20 + v 20 := by rw [show ((n + 1 : Nat) : Int) = (n : Int) + 1 by omega, Int.add_mul ((n : Int) + 1) 1 (v 20), Int.one_mul]
    have := mt_rs_lb2 (h := h) (a := mt_pp h v n) (b := v) (by omega) (by omega) h.toNat (by omega)
    show _ ≤ mt_both h (mt_pp h v n) v 20 ∧ mt_both h (mt_pp h v n) v 20 ≤ _
    rw [mt_both_20, e]
    omega
/-- what a power leaves closed, as a number: between 0 and 10^17, and it doesn't fall -/
theorem mt_plo_r {h : Int} {v cl : Int → Int} (h0 : 0 ≤ h) (h5 : h ≤ 5) (hv : mt_M h v) (hc : mt_M h cl) (v0 : 0 ≤ v 20) (v1 : v 20 ≤ 5000000000000) {n : Nat} (hn : n ≤ 2000) : mt_plo h v cl n = mt_pp h v n 20 + mt_cl h (mt_pp h v n) cl ∧ 0 ≤ mt_plo h v cl n ∧ mt_plo h v cl n ≤ 20000000000000000 := by
  obtain ⟨i1, i2⟩ := mt_pp_20 h0 h5 v0 v1 n hn
  have a := Int.mul_le_mul_of_nonneg_right (show (n : Int) + 1 ≤ 2001 by omega) v0
  have b := Int.mul_nonneg (show (0 : Int) ≤ (n : Int) + 1 by omega) v0
  have c := mt_cl_r h0 h5 (mt_pp_M h5 hv n) hc
  unfold mt_plo
  rw [w64_id ⟨by omega, by omega⟩]
  omega
theorem mt_pp_m {h : Int} {v : Int → Int} (h0 : 0 ≤ h) (h5 : h ≤ 5) (v0 : 0 ≤ v 20) (v1 : v 20 ≤ 5000000000000) {n : Nat} : ∀ k : Nat, n + k ≤ 2000 → mt_pp h v n 20 ≤ mt_pp h v (n + k) 20 := by
  intro k
  induction k with
  | zero => intro _; exact Int.le_refl _
  | succ k ih =>
    intro hn
    have i := ih (by omega)
    obtain ⟨i1, i2⟩ := mt_pp_20 h0 h5 v0 v1 (n + k) (by omega)
    have a := Int.mul_le_mul_of_nonneg_right (show ((n + k : Nat) : Int) + 1 ≤ 2001 by omega) v0
    have b := Int.mul_nonneg (show (0 : Int) ≤ ((n + k : Nat) : Int) + 1 by omega) v0
    have := mt_rs_lb2 (h := h) (a := mt_pp h v (n + k)) (b := v) (by omega) (by omega) h.toNat (by omega)
    show _ ≤ mt_both h (mt_pp h v (n + k)) v 20
    rw [mt_both_20]
    omega
/-- from a power that comes again on, what is left grows by the same, which is no less than 0 -/
theorem mt_plo_g {h : Int} {v cl : Int → Int} (h0 : 0 ≤ h) (h5 : h ≤ 5) (hv : mt_M h v) (ov : mt_ok h v) (hc : mt_M h cl) (v0 : 0 ≤ v 20) (v1 : v 20 ≤ 5000000000000) {a b : Nat} (ab : a ≤ b) (e : mt_eq h (mt_pp h v a) (mt_pp h v b)) (k : Nat) (hb : b + k ≤ 2000) : mt_plo h v cl (b + k) = mt_plo h v cl (a + k) + (mt_plo h v cl b - mt_plo h v cl a) ∧ mt_plo h v cl a ≤ mt_plo h v cl b := by
  have d := mt_lo_d h0 h5 hv ov hc e k
  obtain ⟨a1, a2, a3⟩ := mt_plo_r h0 h5 hv hc v0 v1 (show a ≤ 2000 by omega)
  obtain ⟨b1, b2, b3⟩ := mt_plo_r h0 h5 hv hc v0 v1 (show b ≤ 2000 by omega)
  obtain ⟨c1, c2, c3⟩ := mt_plo_r h0 h5 hv hc v0 v1 (show a + k ≤ 2000 by omega)
  obtain ⟨d1, d2, d3⟩ := mt_plo_r h0 h5 hv hc v0 v1 (show b + k ≤ 2000 by omega)
  rw [w64_id ⟨by omega, by omega⟩, w64_id ⟨by omega, by omega⟩] at d
  refine ⟨by omega, ?_⟩
  have m := mt_pp_m h0 h5 v0 v1 (n := a) (b - a) (by omega)
  rw [show a + (b - a) = b by omega] at m
  have cc := mt_cl_c h0 (mt_pp_M h5 hv a) hc e
  omega
/-- some rounds on -/
theorem mt_plo_j {h : Int} {v cl : Int → Int} (h0 : 0 ≤ h) (h5 : h ≤ 5) (hv : mt_M h v) (ov : mt_ok h v) (hc : mt_M h cl) (v0 : 0 ≤ v 20) (v1 : v 20 ≤ 5000000000000) {a b : Nat} (ab : a ≤ b) (e : mt_eq h (mt_pp h v a) (mt_pp h v b)) (k : Nat) : ∀ j : Nat, a + k + j * (b - a) ≤ 2000 → mt_plo h v cl (a + k + j * (b - a)) = mt_plo h v cl (a + k) + j * (mt_plo h v cl b - mt_plo h v cl a) := by
  intro j
  induction j with
  | zero => intro _; rw [Nat.zero_mul, Nat.add_zero]; simp
  | succ j ih =>
    intro hj
    have ej : (j + 1) * (b - a) = j * (b - a) + (b - a) := by rw [Nat.add_mul, Nat.one_mul]
    have g := (mt_plo_g h0 h5 hv ov hc v0 v1 ab e (k + j * (b - a)) (by omega)).1
    rw [show a + k + (j + 1) * (b - a) = b + (k + j * (b - a)) by omega, g, show a + (k + j * (b - a)) = a + k + j * (b - a) by omega, ih (by omega), show ((j + 1 : Nat) : Int) = (j : Int) + 1 by omega, Int.add_mul, Int.one_mul]
    omega
