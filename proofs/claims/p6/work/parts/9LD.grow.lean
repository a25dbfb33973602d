/-! how many loops the powers leave: no long is left -/
theorem mt_rs_lb2 {h : Int} {a b : Int → Int} (l0 : 0 ≤ a 20 + b 20) (l1 : a 20 + b 20 ≤ 100000000000000000) : ∀ n : Nat, n ≤ 5 → a 20 + b 20 ≤ (mt_rs h a b n).2.1 ∧ (mt_rs h a b n).2.1 ≤ a 20 + b 20 + n := by
  intro n
  induction n with
  | zero =>
    intro _
    show a 20 + b 20 ≤ w64 (a 20 + b 20) ∧ w64 (a 20 + b 20) ≤ _
    rw [w64_id ⟨by omega, by omega⟩]; omega
  | succ n ih =>
    intro hn
    obtain ⟨i1, i2⟩ := ih (by omega)
    unfold mt_rs
    split
    · show a 20 + b 20 ≤ w64 ((mt_rs h a b n).2.1 + 1) ∧ w64 ((mt_rs h a b n).2.1 + 1) ≤ _
      rw [w64_id ⟨by omega, by omega⟩]; omega
    · omega
/-- power n + 1 leaves at least n + 1 times what v leaves, and not much more -/
theorem mt_pp_20 {h : Int} {v : Int → Int} (h0 : 0 ≤ h) (h5 : h ≤ 5) (v0 : 0 ≤ v 20) (v1 : v 20 ≤ 5000000000000) : ∀ n : Nat, n ≤ 2000 → (n + 1) * v 20 ≤ mt_pp h v n 20 ∧ mt_pp h v n 20 ≤ (n + 1) * v 20 + 5 * n := by
  intro n
  induction n with
  | zero => intro _; show ((0 : Nat) + 1 : Int) * v 20 ≤ v 20 ∧ v 20 ≤ ((0 : Nat) + 1 : Int) * v 20 + 5 * (0 : Nat); omega
  | succ n ih =>
    intro hn
    obtain ⟨i1, i2⟩ := ih (by omega)
    have a := Int.mul_le_mul_of_nonneg_right (show (n : Int) + 1 ≤ 2001 by omega) v0
    have b := Int.mul_nonneg (show (0 : Int) ≤ (n : Int) + 1 by omega) v0
    have e : (((n + 1 : Nat) : Int) + 1) * v 20 = ((n : Int) + 1) * v 20 + v 20 := by rw [show ((n + 1 : Nat) : Int) = (n : Int) + 1 by omega, Int.add_mul ((n : Int) + 1) 1 (v 20), Int.one_mul]
    have := mt_rs_lb2 (h := h) (a := mt_pp h v n) (b := v) (by omega) (by omega) h.toNat (by omega)
    show _ ≤ mt_both h (mt_pp h v n) v 20 ∧ mt_both h (mt_pp h v n) v 20 ≤ _
    rw [mt_both_20, e]
    omega
/-- what a power leaves closed, as a number: between 0 and 10^17, and it doesn't fall -/
theorem mt_plo_r {h : Int} {v cl : Int → Int} (h0 : 0 ≤ h) (h5 : h ≤ 5) (hv : mt_M h v) (hc : mt_M h cl) (v0 : 0 ≤ v 20) (v1 : v 20 ≤ 5000000000000) {n : Nat} (hn : n ≤ 2000) : mt_plo h v cl n = mt_pp h v n 20 + mt_cl h (mt_pp h v n) cl ∧ 0 ≤ mt_plo h v cl n ∧ mt_plo h v cl n ≤ 20000000000000000 := by
  obtain ⟨i1, i2⟩ := mt_pp_20 h0 h5 v0 v1 n hn
  have a := Int.mul_le_mul_of_nonneg_right (show (n : Int) + 1 ≤ 2001 by omega) v0
  have b := Int.mul_nonneg (show (0 : Int) ≤ (n : Int) + 1 by omega) v0
  have c := mt_cl_r h0 h5 (mt_pp_M h5 hv n) hc
  unfold mt_plo
  rw [w64_id ⟨by omega, by omega⟩]
  omega
