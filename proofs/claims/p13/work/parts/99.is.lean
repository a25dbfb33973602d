/-! the model: is; powers: what they leave follows their pairs -/
theorem m_is {Q : Int → ml_St → Prop} {h told ts cap w x : Int} {tb cl pr sz : Int → Int} {T : Int → Int → Int} {τ : ml_St} (i : IM h told ts cap tb cl pr sz T τ) (k1 : 0 ≤ w → w < told → 0 ≤ x → x ≤ 3 → Q (if x = 0 then (if mt_cn mt_sx T sz w = 0 then 1 else 0) else if x = 1 then (if mt_cn mt_su T sz w = 0 then 1 else 0) else if x = 2 then (if mt_pl (T w) (sz w).toNat = 0 then 0 else 1) else (if mt_mk h T sz w 23 ≤ mt_mst then 0 else 1)) τ) (k0 : ¬ ((0 ≤ w ∧ w < told) ∧ 0 ≤ x ∧ x ≤ 3) → Q (-1) τ) : f_X12_is τ w x Q := by
  have t16 := i.1.2.2.2.2.2
  unfold f_X12_is f_X12_is_u0
  unfold f_X12_is_u20
  refine m_isWord i (fun w0 w1 _ => ⟨fun z => absurd z (by omega), fun _ => s_lies (fun x0 x3 _ => ⟨fun _ => ?_, fun z => absurd z (by omega)⟩) (fun q _ => ⟨fun z => absurd rfl z, fun _ => k0 (fun z => q z.2)⟩)⟩) (fun q _ => ⟨fun _ => k0 (fun z => q z.1), fun z => absurd rfl z⟩)
  obtain ⟨c1, c2, c3, c4⟩ := IM_cv i w0 w1
  have n := (i.2.2.2.2 w w0 w1).2.1
  have t := (i.2.2.2.2 w w0 w1).1
  have k := k1 w0 w1 x0 x3
  have E1 : ∀ v, Q v τ → (v = 0 ∨ v = 1) → f_X12_is_u87 Q τ v := fun v q hv => by
    unfold f_X12_is_u87 f_X12_is_u97
    rcases hv with e | e
    · subst e; exact ⟨fun _ => q, fun z => absurd rfl z⟩
    · subst e; exact ⟨fun z => absurd z (by omega), fun _ => q⟩
  refine ⟨fun z0 => ⟨fun z1 => ⟨fun z2 => ?_, fun z2 => ?_⟩, fun z1 => ⟨w0, by omega, fun _ => ?_⟩⟩, fun z0 => ⟨w0, by omega, fun _ => ?_⟩⟩
  · rw [if_neg z0, if_neg z1, if_neg z2] at k
    refine s_isTooLong12 w0 (by omega) n.1 n.2 c3 c4 (fun q _ => E1 1 ?_ (Or.inr rfl)) (fun q _ => E1 0 ?_ (Or.inl rfl))
    · rw [if_neg (by have := c1.2.2.2.1; unfold mt_mst mt_top at *; omega)] at k; exact k
    · rw [if_pos (by have := c1.2.2.2.1; unfold mt_mst mt_top at *; omega)] at k; exact k
  · rw [if_neg z0, if_neg z1, if_pos z2] at k
    refine s_isPlain (t := T w) w0 (by omega) (by have := t.1.1; omega) (by have := t.1.2.1; omega) t.2.1 t.2.2 (fun q _ => E1 1 ?_ (Or.inr rfl)) (fun q _ => E1 0 ?_ (Or.inl rfl))
    · rw [if_neg q] at k; exact k
    · rw [if_pos q] at k; exact k
  · rw [if_neg z0, if_pos z1] at k
    rw [n.2]
    unfold mt_top
    refine ⟨fun q => E1 0 ?_ (Or.inl rfl), fun q => E1 1 ?_ (Or.inr rfl)⟩
    · rw [if_neg (by omega)] at k; exact k
    · rw [if_pos (by omega)] at k; exact k
  · rw [if_pos z0] at k
    rw [n.1]
    unfold mt_top
    refine ⟨fun q => E1 0 ?_ (Or.inl rfl), fun q => E1 1 ?_ (Or.inr rfl)⟩
    · rw [if_neg (by omega)] at k; exact k
    · rw [if_pos (by omega)] at k; exact k
/-- a long is its number up to a multiple of 2^64 -/
theorem w64_x (x : Int) : ∃ k, w64 x = x + 18446744073709551616 * k := by
  unfold w64
  rw [Int64.toInt_ofInt, Int.bmod_def, show ((Int64.size : Nat) : Int) = 18446744073709551616 from rfl]
  split
  · exact ⟨-(x / 18446744073709551616), by omega⟩
  · exact ⟨-(x / 18446744073709551616) - 1, by omega⟩
theorem w64_u {x y k : Int} (hy : I64 y) (e : y = x + 18446744073709551616 * k) : w64 x = y := by
  obtain ⟨j, hj⟩ := w64_x x
  have r := w64_r x
  have := hy.1; have := hy.2; have := r.1; have := r.2
  omega
theorem w64_q {x y k : Int} (e : y = x + 18446744073709551616 * k) : w64 x = w64 y := by
  obtain ⟨j, hj⟩ := w64_x y
  exact w64_u (w64_r y) (k := k + j) (by omega)
theorem mt_r1_d {h : Int} {a b a' b' : Int → Int} {m s s' t : Int} (ea : mt_eq h a a') (eb : mt_eq h b b') (t0 : 0 ≤ t) (t1 : t < 2 * h) (b0 : 0 ≤ b t) (b1 : b t < h) : (mt_r1 h a b m s t).1 = (mt_r1 h a' b' m s' t).1 ∧ (mt_r1 h a b m s t).2.2 = (mt_r1 h a' b' m s' t).2.2 := by
  have e1 := eb t t0 t1
  have e2 := ea (b t + h) (by omega) (by omega)
  unfold mt_r1
  dsimp only
  rw [← e1, e2]
  exact ⟨rfl, rfl⟩
theorem mt_rs_d {h : Int} {a b a' b' : Int → Int} (h2 : 0 ≤ h) (h5 : h ≤ 5) (ha : mt_M h a) (hb : mt_M h b) (ea : mt_eq h a a') (eb : mt_eq h b b') : ∀ n : Nat, (n : Int) ≤ h → (mt_rs h a b n).1 = (mt_rs h a' b' n).1 ∧ ∃ k k', (mt_rs h a b n).2.1 - (a 20 + b 20) + 18446744073709551616 * k = (mt_rs h a' b' n).2.1 - (a' 20 + b' 20) + 18446744073709551616 * k' := by
  intro n
  induction n with
  | zero =>
    intro _
    unfold mt_rs
    refine ⟨mt_mm_c ea eb _ (by omega), ?_⟩
    dsimp only
    obtain ⟨k, hk⟩ := w64_x (a 20 + b 20)
    obtain ⟨k', hk'⟩ := w64_x (a' 20 + b' 20)
    exact ⟨k', k, by omega⟩
  | succ n ih =>
    intro hn
    obtain ⟨i1, k, k', i2⟩ := ih (by omega)
    have hC := mt_rs_C h2 h5 ha hb n (by omega)
    unfold mt_rs
    by_cases q : mb_t (mt_rs h a b n).1 n = 0
    · have er : (mt_rg h a b n).1 = (mt_rg h a' b' n).1 := by
        obtain ⟨o, t, e1, e2, o0, o1, t0, t1, n1, n2, e3, e4, z1, z2, c⟩ := mt_rg_C h5 ha hb hC (by omega) (by omega) q
        have c1 := mt_r1_d (m := 0) (s := 0) (s' := 0) (t := n) ea eb (by omega) (by omega) (by omega) (by omega)
        have e17 : (mt_r1 h a b 0 0 n).2.2 = t := by show a (b n + h) - h = t; rw [e1]; omega
        unfold mt_rg
        rw [← c1.2, ← c1.1, e17]
        rcases c with c | ⟨nc, o2, f1, f2, p0, p1, k1, k2, k3, f3, f4, yy⟩
        · rw [if_pos c, if_pos c]; exact c1.1
        · rw [if_neg nc, if_neg nc]
          exact (mt_r1_d ea eb t0 (by omega) (by omega) (by omega)).1
      rw [if_pos q, if_pos (by rw [← i1]; exact q)]
      dsimp only
      rw [er, i1]
      refine ⟨rfl, ?_⟩
      obtain ⟨j, hj⟩ := w64_x ((mt_rs h a b n).2.1 + 1)
      obtain ⟨j', hj'⟩ := w64_x ((mt_rs h a' b' n).2.1 + 1)
      exact ⟨k - j, k' - j', by omega⟩
    · rw [if_neg q, if_neg (by rw [← i1]; exact q)]
      exact ⟨i1, k, k', i2⟩
theorem mt_both_20 {h : Int} {a b : Int → Int} : mt_both h a b 20 = (mt_rs h a b h.toNat).2.1 := by unfold mt_both; rw [if_neg (by omega), if_neg (by omega), if_pos rfl]
theorem mt_both_d {h : Int} {a b a' b' : Int → Int} (h2 : 0 ≤ h) (h5 : h ≤ 5) (ha : mt_M h a) (hb : mt_M h b) (ea : mt_eq h a a') (eb : mt_eq h b b') : mt_eq h (mt_both h a b) (mt_both h a' b') ∧ ∃ k k', mt_both h a b 20 - (a 20 + b 20) + 18446744073709551616 * k = mt_both h a' b' 20 - (a' 20 + b' 20) + 18446744073709551616 * k' := by
  refine ⟨fun e e0 e1 => ?_, ?_⟩
  · rw [mt_eq_both h5 e e0 e1, mt_eq_both h5 e e0 e1]
    unfold mt_prod
    rw [mt_eq_out ea eb _ _ (mt_s_all e0 e1).1]
  · rw [mt_both_20, mt_both_20]
    exact (mt_rs_d h2 h5 ha hb ea eb h.toNat (by omega)).2
/-- the powers of v -/
def mt_pp (h : Int) (v : Int → Int) : Nat → Int → Int
  | 0 => v
  | n + 1 => mt_both h (mt_pp h v n) v
theorem mt_pp_M {h : Int} {v : Int → Int} (h5 : h ≤ 5) (hv : mt_M h v) : ∀ n, mt_M h (mt_pp h v n) := fun n => by
  induction n with
  | zero => exact hv
  | succ n ih => exact mt_both_M h5 ih hv
theorem mt_pp_ok {h : Int} {v : Int → Int} (h5 : h ≤ 5) (hv : mt_ok h v) : ∀ n, mt_ok h (mt_pp h v n) := fun n => by
  induction n with
  | zero => exact hv
  | succ n ih => exact mt_both_ok h5 ih.2.2.1
def mt_plo (h : Int) (v cl : Int → Int) (n : Nat) : Int := w64 (mt_pp h v n 20 + mt_cl h (mt_pp h v n) cl)
theorem mt_lf_c {h : Int} {α α' β : Int → Int} {e : Int} (ha : mt_M h α) (hb : mt_M h β) (ea : mt_eq h α α') : ∀ (F : Nat) (a m : Int), 0 ≤ a → a < 2 * h → mt_lf α β e F a m = mt_lf α' β e F a m := by
  intro F
  induction F with
  | zero => intro a m a0 a1; rfl
  | succ F ih =>
    intro a m a0 a1
    have x := ha a a0 a1
    have y := hb (α a) x.1 x.2.1
    unfold mt_lf
    rw [← ea a a0 a1, ih (β (α a)) _ y.1 y.2.1]
theorem mt_lbs_c {h : Int} {α α' β : Int → Int} (ha : mt_M h α) (hb : mt_M h β) (ea : mt_eq h α α') : ∀ n : Nat, (n : Int) ≤ 2 * h → mt_lbs α β n = mt_lbs α' β n := by
  intro n
  induction n with
  | zero => intro _; rfl
  | succ n ih =>
    intro hn
    unfold mt_lbs
    rw [ih (by omega)]
    unfold mt_lm
    rw [mt_lf_c ha hb ea 11 n 0 (by omega) (by omega)]
theorem mt_cl_c {h : Int} {α α' β : Int → Int} (h0 : 0 ≤ h) (ha : mt_M h α) (hb : mt_M h β) (ea : mt_eq h α α') : mt_cl h α β = mt_cl h α' β := by
  unfold mt_cl; rw [mt_lbs_c ha hb ea _ (by omega)]
/-- from a power that has come before on, all go on alike -/
theorem mt_pp_d {h : Int} {v : Int → Int} (h2 : 0 ≤ h) (h5 : h ≤ 5) (hv : mt_M h v) (ov : mt_ok h v) {a b : Nat} (e : mt_eq h (mt_pp h v a) (mt_pp h v b)) : ∀ n : Nat, mt_eq h (mt_pp h v (a + n)) (mt_pp h v (b + n)) ∧ w64 (mt_pp h v (a + n) 20 - mt_pp h v a 20) = w64 (mt_pp h v (b + n) 20 - mt_pp h v b 20) := by
  intro n
  induction n with
  | zero => exact ⟨e, by show w64 (mt_pp h v a 20 - mt_pp h v a 20) = w64 (mt_pp h v b 20 - mt_pp h v b 20); rw [Int.sub_self, Int.sub_self]⟩
  | succ n ih =>
    obtain ⟨i1, i2⟩ := ih
    obtain ⟨d1, k, k', d2⟩ := mt_both_d h2 h5 (mt_pp_M h5 hv (a + n)) hv i1 (fun _ _ _ => rfl : mt_eq h v v)
    refine ⟨d1, ?_⟩
    show w64 (mt_both h (mt_pp h v (a + n)) v 20 - mt_pp h v a 20) = w64 (mt_both h (mt_pp h v (b + n)) v 20 - mt_pp h v b 20)
    obtain ⟨j, hj⟩ := w64_x (mt_pp h v (a + n) 20 - mt_pp h v a 20)
    obtain ⟨j', hj'⟩ := w64_x (mt_pp h v (b + n) 20 - mt_pp h v b 20)
    exact w64_q (k := (k - k' + j - j')) (by omega)
theorem mt_lo_d {h : Int} {v cl : Int → Int} (h2 : 0 ≤ h) (h5 : h ≤ 5) (hv : mt_M h v) (ov : mt_ok h v) (hc : mt_M h cl) {a b : Nat} (e : mt_eq h (mt_pp h v a) (mt_pp h v b)) (n : Nat) : w64 (mt_plo h v cl (b + n) - mt_plo h v cl (a + n)) = w64 (mt_plo h v cl b - mt_plo h v cl a) := by
  obtain ⟨d1, d2⟩ := mt_pp_d h2 h5 hv ov e n
  have c1 := mt_cl_c h2 (mt_pp_M h5 hv a) hc e
  have c2 := mt_cl_c h2 (mt_pp_M h5 hv (a + n)) hc d1
  unfold mt_plo
  rw [c1, c2]
  obtain ⟨j1, h1⟩ := w64_x (mt_pp h v (a + n) 20 - mt_pp h v a 20)
  obtain ⟨j2, h2⟩ := w64_x (mt_pp h v (b + n) 20 - mt_pp h v b 20)
  obtain ⟨k1, g1⟩ := w64_x (mt_pp h v (a + n) 20 + mt_cl h (mt_pp h v (b + n)) cl)
  obtain ⟨k2, g2⟩ := w64_x (mt_pp h v (b + n) 20 + mt_cl h (mt_pp h v (b + n)) cl)
  obtain ⟨k3, g3⟩ := w64_x (mt_pp h v a 20 + mt_cl h (mt_pp h v b) cl)
  obtain ⟨k4, g4⟩ := w64_x (mt_pp h v b 20 + mt_cl h (mt_pp h v b) cl)
  exact w64_q (k := (k4 - k3 - k2 + k1 + j2 - j1)) (by omega)
