/-! alike weaves make alike ones; the straight one in front changes nothing -/
def mt_weq (h : Int) (v w : Int → Int) : Prop := (∀ e, 0 ≤ e → e < 2 * h → v e = w e ∧ v (10 + e) = w (10 + e)) ∧ v 20 = w 20 ∧ v 21 = w 21 ∧ v 22 = w 22
theorem mt_weq_r {h : Int} {v : Int → Int} : mt_weq h v v := ⟨fun _ _ _ => ⟨rfl, rfl⟩, rfl, rfl, rfl⟩
theorem mt_weq_s {h : Int} {v w : Int → Int} (a : mt_weq h v w) : mt_weq h w v := ⟨fun e e0 e1 => ⟨(a.1 e e0 e1).1.symm, (a.1 e e0 e1).2.symm⟩, a.2.1.symm, a.2.2.1.symm, a.2.2.2.symm⟩
theorem mt_weq_t {h : Int} {u v w : Int → Int} (a : mt_weq h u v) (b : mt_weq h v w) : mt_weq h u w := ⟨fun e e0 e1 => ⟨(a.1 e e0 e1).1.trans (b.1 e e0 e1).1, (a.1 e e0 e1).2.trans (b.1 e e0 e1).2⟩, a.2.1.trans b.2.1, a.2.2.1.trans b.2.2.1, a.2.2.2.trans b.2.2.2⟩
theorem mt_weq_e {h : Int} {v w : Int → Int} (a : mt_weq h v w) : mt_eq h v w := fun e e0 e1 => (a.1 e e0 e1).1
theorem mt_weq_l {h : Int} {v w : Int → Int} (a : mt_weq h v w) : mt_eq h (mt_ln v) (mt_ln w) := fun e e0 e1 => (a.1 e e0 e1).2
theorem mt_mv_eq {h m : Int} {τ : ml_St} {v w : Int → Int} (a : mt_weq h v w) (b : mt_mv h τ m v) : mt_mv h τ m w := ⟨fun e e0 e1 => ⟨(b.1 e e0 e1).1.trans (a.1 e e0 e1).1, (b.1 e e0 e1).2.trans (a.1 e e0 e1).2⟩, b.2.1.trans a.2.1, b.2.2.1.trans a.2.2.1, b.2.2.2.trans a.2.2.2⟩
theorem mt_r1_c {h : Int} {a b a' b' : Int → Int} {m s t : Int} (ea : mt_weq h a a') (eb : mt_weq h b b') (t0 : 0 ≤ t) (t1 : t < 2 * h) (b0 : 0 ≤ b t) (b1 : b t < h) : mt_r1 h a b m s t = mt_r1 h a' b' m s t := by
  have e1 := eb.1 t t0 t1
  have e2 := ea.1 (b t + h) (by omega) (by omega)
  unfold mt_r1
  rw [← e1.1, e1.2, e2.1, e2.2]
theorem mt_mm_c {h : Int} {a b a' b' : Int → Int} (ea : mt_eq h a a') (eb : mt_eq h b b') : ∀ n : Nat, (n : Int) ≤ 2 * h → mt_mm h a b n = mt_mm h a' b' n := by
  intro n
  induction n with
  | zero => intro _; rfl
  | succ n ih =>
    intro hn
    unfold mt_mm
    rw [ih (by omega), mt_eq_met ea eb _ _ _ (mt_s_all (by omega) (by omega)).1]
theorem mt_rs_c {h : Int} {a b a' b' : Int → Int} (h2 : 0 ≤ h) (h5 : h ≤ 5) (ha : mt_M h a) (hb : mt_M h b) (ea : mt_weq h a a') (eb : mt_weq h b b') : ∀ n : Nat, (n : Int) ≤ h → mt_rs h a b n = mt_rs h a' b' n := by
  intro n
  induction n with
  | zero =>
    intro _
    unfold mt_rs
    rw [mt_mm_c (mt_weq_e ea) (mt_weq_e eb) _ (by omega), ea.2.1, ea.2.2.1, ea.2.2.2, eb.2.1, eb.2.2.1, eb.2.2.2]
  | succ n ih =>
    intro hn
    have i := ih (by omega)
    have hC := mt_rs_C h2 h5 ha hb n (by omega)
    unfold mt_rs
    by_cases q : mb_t (mt_rs h a b n).1 n = 0
    · have er : mt_rg h a b n = mt_rg h a' b' n := by
        obtain ⟨o, t, e1, e2, o0, o1, t0, t1, n1, n2, e3, e4, z1, z2, c⟩ := mt_rg_C h5 ha hb hC (by omega) (by omega) q
        have c1 := mt_r1_c (m := 0) (s := 0) (t := n) ea eb (by omega) (by omega) (by omega) (by omega)
        unfold mt_rg
        rw [← c1]
        have e17 : (mt_r1 h a b 0 0 n).2.2 = t := by show a (b n + h) - h = t; rw [e1]; omega
        rcases c with c | ⟨nc, o2, f1, f2, p0, p1, k1, k2, k3, f3, f4, yy⟩
        · rw [e17, if_pos c, if_pos c]
        · rw [e17, if_neg nc, if_neg nc]
          exact mt_r1_c ea eb t0 (by omega) (by omega) (by omega)
      rw [if_pos q, i] at *
      rw [if_pos q, er]
    · rw [if_neg q, i] at *
      rw [if_neg q]
theorem mt_both_c {h : Int} {a b a' b' : Int → Int} (h2 : 0 ≤ h) (h5 : h ≤ 5) (ha : mt_M h a) (hb : mt_M h b) (ea : mt_weq h a a') (eb : mt_weq h b b') : mt_weq h (mt_both h a b) (mt_both h a' b') := by
  have er := mt_rs_c h2 h5 ha hb ea eb h.toNat (by omega)
  refine ⟨fun e e0 e1 => ⟨?_, ?_⟩, ?_, ?_, ?_⟩
  · rw [mt_eq_both h5 e e0 e1, mt_eq_both h5 e e0 e1]
    unfold mt_prod
    rw [mt_eq_out (mt_weq_e ea) (mt_weq_e eb) _ _ (mt_s_all e0 e1).1]
  · rw [mt_both_ln h5 e0 e1, mt_both_ln h5 e0 e1, mt_eq_sum (mt_weq_e ea) (mt_weq_e eb) (mt_weq_l ea) (mt_weq_l eb) _ _ _ (mt_s_all e0 e1).1]
  · have e20 : ∀ a b, mt_both h a b 20 = (mt_rs h a b h.toNat).2.1 := fun a b => by unfold mt_both; rw [if_neg (by omega), if_neg (by omega), if_pos rfl]
    rw [e20, e20, er]
  · have e21 : ∀ a b, mt_both h a b 21 = (mt_rs h a b h.toNat).2.2.1 := fun a b => by unfold mt_both; rw [if_neg (by omega), if_neg (by omega), if_neg (by omega), if_pos rfl]
    rw [e21, e21, er]
  · have e22 : ∀ a b, mt_both h a b 22 = (mt_rs h a b h.toNat).2.2.2 := fun a b => by unfold mt_both; rw [if_neg (by omega), if_neg (by omega), if_neg (by omega), if_neg (by omega), if_pos rfl]
    rw [e22, e22, er]
/-- values in their ranges -/
def mt_ok (h : Int) (v : Int → Int) : Prop := (∀ e, 0 ≤ e → e < 2 * h → I64 (v (10 + e))) ∧ I64 (v 20) ∧ 0 ≤ v 21 ∧ I64 (v 22)
theorem mt_sum_I {h : Int} {a b ra rb : Int → Int} : ∀ (F : Nat) (x acc : Int), I64 (mt_sum h a b ra rb F x acc) := by
  intro F
  induction F with
  | zero => intro x acc; exact w64_r _
  | succ F ih => intro x acc; unfold mt_sum; split; exact ih _ _; exact w64_r _
theorem mt_rs_ok {h : Int} {a b : Int → Int} (a21 : 0 ≤ a 21) : ∀ n : Nat, I64 (mt_rs h a b n).2.1 ∧ 0 ≤ (mt_rs h a b n).2.2.1 ∧ I64 (mt_rs h a b n).2.2.2 := by
  intro n
  induction n with
  | zero => refine ⟨w64_r _, ?_, w64_r _⟩; show 0 ≤ max (a 21) (b 21); omega
  | succ n ih =>
    unfold mt_rs
    split
    · refine ⟨w64_r _, ?_, w64_r _⟩
      show 0 ≤ max (mt_rs h a b n).2.2.1 (mt_rg h a b n).2.1
      omega
    · exact ih
theorem mt_both_ok {h : Int} {a b : Int → Int} (h5 : h ≤ 5) (a21 : 0 ≤ a 21) : mt_ok h (mt_both h a b) := by
  obtain ⟨r1, r2, r3⟩ := mt_rs_ok (h := h) (b := b) a21 h.toNat
  refine ⟨fun e e0 e1 => by rw [mt_both_ln h5 e0 e1]; exact mt_sum_I _ _ _, ?_, ?_, ?_⟩
  · unfold mt_both; rw [if_neg (by omega), if_neg (by omega), if_pos rfl]; exact r1
  · unfold mt_both; rw [if_neg (by omega), if_neg (by omega), if_neg (by omega), if_pos rfl]; exact r2
  · unfold mt_both; rw [if_neg (by omega), if_neg (by omega), if_neg (by omega), if_neg (by omega), if_pos rfl]; exact r3
theorem mt_str_ok {h : Int} (h5 : h ≤ 5) : mt_ok h (mt_str h) := by
  have z : ∀ k : Int, 10 ≤ k → mt_str h k = 0 := fun k hk => by unfold mt_str; rw [if_neg (by omega)]
  exact ⟨fun e e0 e1 => by rw [z _ (by omega)]; exact ⟨by omega, by omega⟩, by rw [z _ (by omega)]; exact ⟨by omega, by omega⟩, by rw [z _ (by omega)]; exact Int.le_refl 0, by rw [z _ (by omega)]; exact ⟨by omega, by omega⟩⟩
theorem mt_sgn_ok {h i u : Int} (h5 : h ≤ 5) : mt_ok h (mt_sgn h i u) := by
  refine ⟨fun e e0 e1 => ?_, ?_, ?_, ?_⟩
  · unfold mt_sgn
    rw [if_neg (by omega), if_pos (by omega)]
    split <;> exact ⟨by omega, by omega⟩
  · have : mt_sgn h i u 20 = 0 := by unfold mt_sgn; simp
    rw [this]; exact ⟨by omega, by omega⟩
  · have : mt_sgn h i u 21 = 0 := by unfold mt_sgn; simp
    omega
  · have : mt_sgn h i u 22 = 0 := by unfold mt_sgn; simp
    rw [this]; exact ⟨by omega, by omega⟩
theorem mt_rp_ok {h : Int} (h5 : h ≤ 5) : ∀ (F : Nat) (r : Int) (it bs : Int → Int), mt_ok h it → 0 ≤ bs 21 → mt_ok h (mt_rp h F r it bs) := by
  intro F
  induction F with
  | zero => intro r it bs hi _; exact hi
  | succ F ih =>
    intro r it bs hi hb
    unfold mt_rp
    split
    · exact hi
    · refine ih _ _ _ ?_ (mt_both_ok h5 hb).2.2.1
      split
      · exact hi
      · exact mt_both_ok h5 hi.2.2.1
theorem mt_rep_ok {h times : Int} {it : Int → Int} (h5 : h ≤ 5) (hi : mt_ok h it) : mt_ok h (mt_rep h times it) := by
  unfold mt_rep
  split
  · exact hi
  · exact mt_rp_ok h5 _ _ _ _ (mt_str_ok h5) hi.2.2.1
theorem mt_out_in {h : Int} {a b : Int → Int} {F : Nat} {x : Int} (hi : mt_in h (mt_P h a b x)) : mt_out h a b (F + 1) x = mt_out h a b F (mt_J h (mt_P h a b x)) := by
  conv => lhs; unfold mt_out
  exact if_pos hi
theorem mt_out_no {h : Int} {a b : Int → Int} {F : Nat} {x : Int} (ho : ¬ mt_in h (mt_P h a b x)) : mt_out h a b F x = mt_P h a b x := by
  cases F with
  | zero => rfl
  | succ F => unfold mt_out; exact if_neg ho
theorem mt_id {h : Int} {v : Int → Int} (h2 : 2 ≤ h) (h5 : h ≤ 5) (hv : mt_M h v) (ov : mt_ok h v) : mt_weq h (mt_both h (mt_str h) v) v := by
  have z : ∀ k : Int, 10 ≤ k → mt_str h k = 0 := fun k hk => by unfold mt_str; rw [if_neg (by omega)]
  have s1 : ∀ e, 0 ≤ e → e < h → mt_str h e = e + h := fun e e0 e1 => by rw [(mt_str_e h5 e0 (by omega)).1, if_pos e1]
  have s2 : ∀ e, h ≤ e → e < 2 * h → mt_str h e = e - h := fun e e0 e1 => by rw [(mt_str_e h5 (by omega) e1).1, if_neg (by omega)]
  -- from B's left end of rail r, and from an end of B's outside
  have P1 : ∀ e, 0 ≤ e → e < h → mt_P h (mt_str h) v e = e + h := fun e e0 e1 => by unfold mt_P; rw [if_pos (by omega), s1 e e0 e1]
  have P2 : ∀ e, 0 ≤ e → e < 2 * h → mt_P h (mt_str h) v (2 * h + e) = 2 * h + v e := fun e e0 e1 => by unfold mt_P; rw [if_neg (by omega), show 2 * h + e - 2 * h = e by omega]
  have P3 : ∀ e, h ≤ e → e < 2 * h → mt_P h (mt_str h) v e = e - h := fun e e0 e1 => by unfold mt_P; rw [if_pos (by omega), s2 e e0 e1]
  have R1 : ∀ e, 0 ≤ e → e < 2 * h → mt_R h (mt_ln (mt_str h)) (mt_ln v) e = 0 := fun e e0 e1 => by unfold mt_R; rw [if_pos (by omega)]; exact z _ (by omega)
  have R2 : ∀ e, 0 ≤ e → e < 2 * h → mt_R h (mt_ln (mt_str h)) (mt_ln v) (2 * h + e) = v (10 + e) := fun e e0 e1 => by unfold mt_R; rw [if_neg (by omega), show 2 * h + e - 2 * h = e by omega]; rfl
  have B : ∀ (F : Nat) (e acc : Int), 1 ≤ F → 0 ≤ e → e < 2 * h → mt_e h (mt_out h (mt_str h) v F (2 * h + e)) = v e ∧ mt_sum h (mt_str h) v (mt_ln (mt_str h)) (mt_ln v) F (2 * h + e) acc = w64 (acc + v (10 + e)) := by
    intro F e acc hF e0 e1
    obtain ⟨F, rfl⟩ : ∃ F', F = F' + 1 := ⟨F - 1, by omega⟩
    obtain ⟨v0, v1, v2, v3⟩ := hv e e0 e1
    by_cases c : v e < h
    · have hin : mt_in h (mt_P h (mt_str h) v (2 * h + e)) := by rw [P2 e e0 e1]; exact ⟨by omega, by omega⟩
      have hJ : mt_J h (mt_P h (mt_str h) v (2 * h + e)) = h + v e := by rw [P2 e e0 e1]; unfold mt_J; rw [if_neg (by omega)]; omega
      have hP : mt_P h (mt_str h) v (h + v e) = v e := by rw [P3 _ (by omega) (by omega)]; omega
      have hno : ¬ mt_in h (mt_P h (mt_str h) v (h + v e)) := by rw [hP]; intro q; have := q.1; omega
      have o1 : mt_out h (mt_str h) v (F + 1) (2 * h + e) = mt_out h (mt_str h) v F (h + v e) := by
        rw [mt_out_in hin, hJ]
      have o2 : mt_out h (mt_str h) v F (h + v e) = v e := by rw [mt_out_no hno, hP]
      refine ⟨?_, ?_⟩
      · rw [o1, o2]; unfold mt_e; rw [if_pos c]
      · rw [mt_sum_in hin, hJ, mt_sum_out hno, R2 e e0 e1, R1 _ (by omega) (by omega), Int.add_zero]
        exact w64_id (w64_r _)
    · have hno : ¬ mt_in h (mt_P h (mt_str h) v (2 * h + e)) := by rw [P2 e e0 e1]; intro q; have := q.2; omega
      have o1 : mt_out h (mt_str h) v (F + 1) (2 * h + e) = 2 * h + v e := by
        rw [mt_out_no hno, P2 e e0 e1]
      refine ⟨?_, ?_⟩
      · rw [o1]; unfold mt_e; rw [if_neg (by omega)]; omega
      · rw [mt_sum_out hno, R2 e e0 e1]
  have main : ∀ e, 0 ≤ e → e < 2 * h → mt_prod h (mt_str h) v e = v e ∧ mt_sum h (mt_str h) v (mt_ln (mt_str h)) (mt_ln v) 10 (mt_s h e) 0 = w64 (0 + v (10 + e)) := by
    intro e e0 e1
    unfold mt_prod mt_s
    by_cases c : e < h
    · rw [if_pos c]
      have hin : mt_in h (mt_P h (mt_str h) v e) := by rw [P1 e e0 c]; exact ⟨by omega, by omega⟩
      have hJ : mt_J h (mt_P h (mt_str h) v e) = 2 * h + e := by rw [P1 e e0 c]; unfold mt_J; rw [if_pos (by omega)]; omega
      have o1 : mt_out h (mt_str h) v 10 e = mt_out h (mt_str h) v 9 (2 * h + e) := by
        rw [mt_out_in hin, hJ]
      rw [o1, mt_sum_in hin, hJ, R1 e e0 e1]
      have := B 9 e (w64 (0 + 0)) (by omega) e0 e1
      rw [show w64 (0 + 0) = 0 by decide] at *
      exact this
    · rw [if_neg c]
      exact B 10 e 0 (by omega) e0 e1
  -- every rail is met
  have met : ∀ n : Nat, (n : Int) ≤ h → mt_rs h (mt_str h) v n = mt_rs h (mt_str h) v 0 := by
    intro n
    induction n with
    | zero => intro _; rfl
    | succ n ih =>
      intro hn
      have i := ih (by omega)
      conv => lhs; unfold mt_rs
      rw [i]
      have : mb_t (mt_rs h (mt_str h) v 0).1 n = 1 := by
        show mb_t (mt_mm h (mt_str h) v (2 * h).toNat) n = 1
        refine ((mt_mm_bit (a := mt_str h) (b := v) h5 (2 * h).toNat).2 n (by omega) (by omega)).2 ⟨n, by omega, ?_⟩
        have es : mt_s h (n : Int) = n := by unfold mt_s; rw [if_pos (by omega)]
        rw [es, mt_hit_s, P1 n (by omega) (by omega)]
        refine ⟨⟨by omega, by omega⟩, Or.inl ?_⟩
        unfold mt_rl; rw [if_pos (by omega)]; omega
      rw [if_neg (by omega)]
  have r := met h.toNat (by omega)
  refine ⟨fun e e0 e1 => ⟨?_, ?_⟩, ?_, ?_, ?_⟩
  · rw [mt_eq_both h5 e e0 e1, (main e e0 e1).1]
  · rw [mt_both_ln h5 e0 e1, (main e e0 e1).2, Int.zero_add, w64_id (ov.1 e e0 e1)]
  · unfold mt_both; rw [if_neg (by omega), if_neg (by omega), if_pos rfl, r]
    show w64 (mt_str h 20 + v 20) = v 20
    rw [z 20 (by omega), Int.zero_add, w64_id ov.2.1]
  · unfold mt_both; rw [if_neg (by omega), if_neg (by omega), if_neg (by omega), if_pos rfl, r]
    show max (mt_str h 21) (v 21) = v 21
    rw [z 21 (by omega)]; have := ov.2.2.1; omega
  · unfold mt_both; rw [if_neg (by omega), if_neg (by omega), if_neg (by omega), if_neg (by omega), if_pos rfl, r]
    show w64 (mt_str h 22 + v 22) = v 22
    rw [z 22 (by omega), Int.zero_add, w64_id ov.2.2.2]
