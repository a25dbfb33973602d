/-! signs told by the class are the counts; loops stay few -/
theorem mt_id_r {h : Int} {v : Int → Int} (h2 : 2 ≤ h) (h5 : h ≤ 5) (hv : mt_M h v) (ov : mt_ok h v) : mt_weq h (mt_both h v (mt_str h)) v := by
  have z : ∀ k : Int, 10 ≤ k → mt_str h k = 0 := fun k hk => by unfold mt_str; rw [if_neg (by omega)]
  have s1 : ∀ e, 0 ≤ e → e < h → mt_str h e = e + h := fun e e0 e1 => by rw [(mt_str_e h5 e0 (by omega)).1, if_pos e1]
  have s2 : ∀ e, h ≤ e → e < 2 * h → mt_str h e = e - h := fun e e0 e1 => by rw [(mt_str_e h5 (by omega) e1).1, if_neg (by omega)]
  have P1 : ∀ e, 0 ≤ e → e < 2 * h → mt_P h v (mt_str h) e = v e := fun e e0 e1 => by unfold mt_P; rw [if_pos e1]
  have P2 : ∀ e, 0 ≤ e → e < h → mt_P h v (mt_str h) (2 * h + e) = 3 * h + e := fun e e0 e1 => by unfold mt_P; rw [if_neg (by omega), show 2 * h + e - 2 * h = e by omega, s1 e e0 e1]; omega
  have P3 : ∀ e, h ≤ e → e < 2 * h → mt_P h v (mt_str h) (2 * h + e) = h + e := fun e e0 e1 => by unfold mt_P; rw [if_neg (by omega), show 2 * h + e - 2 * h = e by omega, s2 e e0 e1]; omega
  have R1 : ∀ e, 0 ≤ e → e < 2 * h → mt_R h (mt_ln v) (mt_ln (mt_str h)) e = v (10 + e) := fun e e0 e1 => by unfold mt_R; rw [if_pos e1]; rfl
  have R2 : ∀ e, 0 ≤ e → e < 2 * h → mt_R h (mt_ln v) (mt_ln (mt_str h)) (2 * h + e) = 0 := fun e e0 e1 => by unfold mt_R; rw [if_neg (by omega), show 2 * h + e - 2 * h = e by omega]; exact z _ (by omega)
  have B : ∀ (F : Nat) (e acc : Int), 1 ≤ F → 0 ≤ e → e < 2 * h → mt_e h (mt_out h v (mt_str h) F e) = v e ∧ mt_sum h v (mt_str h) (mt_ln v) (mt_ln (mt_str h)) F e acc = w64 (acc + v (10 + e)) := by
    intro F e acc hF e0 e1
    obtain ⟨F, rfl⟩ : ∃ F', F = F' + 1 := ⟨F - 1, by omega⟩
    obtain ⟨v0, v1, v2, v3⟩ := hv e e0 e1
    by_cases c : h ≤ v e
    · have hin : mt_in h (mt_P h v (mt_str h) e) := by rw [P1 e e0 e1]; exact ⟨by omega, by omega⟩
      have hJ : mt_J h (mt_P h v (mt_str h) e) = 2 * h + (v e - h) := by rw [P1 e e0 e1]; unfold mt_J; rw [if_pos (by omega)]; omega
      have hP : mt_P h v (mt_str h) (2 * h + (v e - h)) = 2 * h + v e := by rw [P2 _ (by omega) (by omega)]; omega
      have hno : ¬ mt_in h (mt_P h v (mt_str h) (2 * h + (v e - h))) := by rw [hP]; intro q; have := q.2; omega
      refine ⟨?_, ?_⟩
      · rw [mt_out_in hin, hJ, mt_out_no hno, hP]; unfold mt_e; rw [if_neg (by omega)]; omega
      · rw [mt_sum_in hin, hJ, mt_sum_out hno, R1 e e0 e1, R2 _ (by omega) (by omega), Int.add_zero]
        exact w64_id (w64_r _)
    · have hno : ¬ mt_in h (mt_P h v (mt_str h) e) := by rw [P1 e e0 e1]; intro q; have := q.1; omega
      refine ⟨?_, ?_⟩
      · rw [mt_out_no hno, P1 e e0 e1]; unfold mt_e; rw [if_pos (by omega)]
      · rw [mt_sum_out hno, R1 e e0 e1]
  have main : ∀ e, 0 ≤ e → e < 2 * h → mt_prod h v (mt_str h) e = v e ∧ mt_sum h v (mt_str h) (mt_ln v) (mt_ln (mt_str h)) 10 (mt_s h e) 0 = w64 (0 + v (10 + e)) := by
    intro e e0 e1
    unfold mt_prod mt_s
    by_cases c : e < h
    · rw [if_pos c]
      exact B 10 e 0 (by omega) e0 e1
    · rw [if_neg c]
      have hin : mt_in h (mt_P h v (mt_str h) (2 * h + e)) := by rw [P3 e (by omega) e1]; exact ⟨by omega, by omega⟩
      have hJ : mt_J h (mt_P h v (mt_str h) (2 * h + e)) = e := by rw [P3 e (by omega) e1]; unfold mt_J; rw [if_neg (by omega)]; omega
      rw [show (10 : Nat) = 9 + 1 from rfl, mt_out_in hin, mt_sum_in hin, hJ, R2 e e0 e1]
      have := B 9 e (w64 (0 + 0)) (by omega) e0 e1
      rw [show w64 (0 + 0) = 0 by decide] at *
      exact this
  have met : ∀ n : Nat, (n : Int) ≤ h → mt_rs h v (mt_str h) n = mt_rs h v (mt_str h) 0 := by
    intro n
    induction n with
    | zero => intro _; rfl
    | succ n ih =>
      intro hn
      have i := ih (by omega)
      conv => lhs; unfold mt_rs
      rw [i]
      have : mb_t (mt_rs h v (mt_str h) 0).1 n = 1 := by
        show mb_t (mt_mm h v (mt_str h) (2 * h).toNat) n = 1
        refine ((mt_mm_bit (a := v) (b := mt_str h) h5 (2 * h).toNat).2 n (by omega) (by omega)).2 ⟨h.toNat + n, by omega, ?_⟩
        have es : mt_s h ((h.toNat + n : Nat) : Int) = 2 * h + (h + n) := by unfold mt_s; rw [if_neg (by omega)]; omega
        rw [es, show (10 : Nat) = 9 + 1 from rfl, mt_hit_s, P3 (h + n) (by omega) (by omega)]
        refine ⟨⟨by omega, by omega⟩, Or.inl ?_⟩
        unfold mt_rl; rw [if_neg (by omega)]; omega
      rw [if_neg (by omega)]
  have r := met h.toNat (by omega)
  refine ⟨fun e e0 e1 => ⟨?_, ?_⟩, ?_, ?_, ?_⟩
  · rw [mt_eq_both h5 e e0 e1, (main e e0 e1).1]
  · rw [mt_both_ln h5 e0 e1, (main e e0 e1).2, Int.zero_add, w64_id (ov.1 e e0 e1)]
  · unfold mt_both; rw [if_neg (by omega), if_neg (by omega), if_pos rfl, r]
    show w64 (v 20 + mt_str h 20) = v 20
    rw [z 20 (by omega), Int.add_zero, w64_id ov.2.1]
  · unfold mt_both; rw [if_neg (by omega), if_neg (by omega), if_neg (by omega), if_pos rfl, r]
    show max (v 21) (mt_str h 21) = v 21
    rw [z 21 (by omega)]; have := ov.2.2.1; omega
  · unfold mt_both; rw [if_neg (by omega), if_neg (by omega), if_neg (by omega), if_neg (by omega), if_pos rfl, r]
    show w64 (v 22 + mt_str h 22) = v 22
    rw [z 22 (by omega), Int.add_zero, w64_id ov.2.2.2]
/-- v is made of C signs -/
def mt_cv (h : Int) (v : Int → Int) (C : Int) : Prop := 0 ≤ C ∧ mt_M h v ∧ mt_ok h v ∧ v 23 = min mt_top C ∧ (C ≤ mt_mst → 0 ≤ v 20 ∧ (C = 0 → mt_weq h v (mt_str h)) ∧ (1 ≤ C → v 20 ≤ 5 * (C - 1)))
theorem mt_rs_lb {h : Int} {a b : Int → Int} (l0 : 0 ≤ a 20 + b 20) (l1 : a 20 + b 20 ≤ 100000000000000) : ∀ n : Nat, n ≤ 5 → a 20 + b 20 ≤ (mt_rs h a b n).2.1 ∧ (mt_rs h a b n).2.1 ≤ a 20 + b 20 + n := by
  intro n
  induction n with
  | zero =>
    intro _
    show a 20 + b 20 ≤ w64 (a 20 + b 20) ∧ w64 (a 20 + b 20) ≤ _
    rw [w64_id ⟨by omega, by omega⟩]; omega
  | succ n ih =>
    intro hn
    obtain ⟨i1, i2⟩ := ih (by omega)
    unfold mt_rs
    split
    · show a 20 + b 20 ≤ w64 ((mt_rs h a b n).2.1 + 1) ∧ w64 ((mt_rs h a b n).2.1 + 1) ≤ _
      rw [w64_id ⟨by omega, by omega⟩]; omega
    · omega
theorem mt_cv_both {h : Int} {a b : Int → Int} {Ca Cb : Int} (h2 : 2 ≤ h) (h5 : h ≤ 5) (ca : mt_cv h a Ca) (cb : mt_cv h b Cb) : mt_cv h (mt_both h a b) (Ca + Cb) := by
  obtain ⟨a0, a1, a2, a3, a4⟩ := ca
  obtain ⟨b0, b1, b2, b3, b4⟩ := cb
  have e20 : mt_both h a b 20 = (mt_rs h a b h.toNat).2.1 := by unfold mt_both; rw [if_neg (by omega), if_neg (by omega), if_pos rfl]
  have e23 : mt_both h a b 23 = w64 (a 23 + min (b 23) (w64 (9000000000000000000 - a 23))) := by unfold mt_both; rw [if_neg (by omega), if_neg (by omega), if_neg (by omega), if_neg (by omega), if_neg (by omega), if_pos rfl]
  refine ⟨by omega, mt_both_M h5 a1 b1, mt_both_ok h5 a2.2.2.1, ?_, fun hc => ?_⟩
  · rw [e23, a3, b3]
    unfold mt_top
    rw [w64_id (x := 9000000000000000000 - min 9000000000000000000 Ca) ⟨by omega, by omega⟩, w64_id ⟨by omega, by omega⟩]
    omega
  · obtain ⟨p1, p2, p3⟩ := a4 (by omega)
    obtain ⟨q1, q2, q3⟩ := b4 (by omega)
    unfold mt_mst at hc
    by_cases za : Ca = 0
    · have w : mt_weq h (mt_both h a b) b := mt_weq_t (mt_both_c (by omega) h5 a1 b1 (p2 za) mt_weq_r) (mt_id h2 h5 b1 b2)
      refine ⟨by rw [w.2.1]; exact q1, fun z => mt_weq_t w (q2 (by omega)), fun z => ?_⟩
      rw [w.2.1]; have := q3 (by omega); omega
    · by_cases zb : Cb = 0
      · have w : mt_weq h (mt_both h a b) a := mt_weq_t (mt_both_c (by omega) h5 a1 b1 mt_weq_r (q2 zb)) (mt_id_r h2 h5 a1 a2)
        refine ⟨by rw [w.2.1]; exact p1, fun z => absurd z (by omega), fun z => ?_⟩
        rw [w.2.1]; have := p3 (by omega); omega
      · have x1 := p3 (by omega)
        have x2 := q3 (by omega)
        have := mt_rs_lb (h := h) (a := a) (b := b) (by omega) (by omega) h.toNat (by omega)
        rw [e20]
        exact ⟨by omega, fun z => absurd z (by omega), fun _ => by omega⟩
theorem mt_cv_str {h : Int} (h5 : h ≤ 5) : mt_cv h (mt_str h) 0 := by
  have z : ∀ k : Int, 10 ≤ k → mt_str h k = 0 := fun k hk => by unfold mt_str; rw [if_neg (by omega)]
  exact ⟨by omega, mt_str_M h5, mt_str_ok h5, by rw [z _ (by omega)]; unfold mt_top; omega, fun _ => ⟨by rw [z _ (by omega)]; omega, fun _ => mt_weq_r, fun c => absurd c (by omega)⟩⟩
theorem mt_cv_sgn {h i u : Int} (h5 : h ≤ 5) (i0 : 0 ≤ i) (i1 : i + 2 ≤ h) : mt_cv h (mt_sgn h i u) 1 := by
  have e20 : mt_sgn h i u 20 = 0 := by unfold mt_sgn; simp
  have e23 : mt_sgn h i u 23 = 1 := by unfold mt_sgn; simp
  exact ⟨by omega, mt_sgn_M h5 i0 i1, mt_sgn_ok h5, by rw [e23]; unfold mt_top; omega, fun _ => ⟨by omega, fun c => absurd c (by omega), fun _ => by omega⟩⟩
theorem mt_cv_rp {h : Int} (h2 : 2 ≤ h) (h5 : h ≤ 5) : ∀ (F : Nat) (r : Int) (it bs : Int → Int) (Ci Cb : Int), 0 ≤ r → r < ((2 ^ F : Nat) : Int) → mt_cv h it Ci → mt_cv h bs Cb → mt_cv h (mt_rp h F r it bs) (Ci + r * Cb) := by
  intro F
  induction F with
  | zero =>
    intro r it bs Ci Cb r0 r1 ci _
    have : ((2 ^ 0 : Nat) : Int) = 1 := rfl
    have : r = 0 := by omega
    subst this
    rw [Int.zero_mul, Int.add_zero]; exact ci
  | succ F ih =>
    intro r it bs Ci Cb r0 r1 ci cb
    have p2 : ((2 ^ (F + 1) : Nat) : Int) = 2 * ((2 ^ F : Nat) : Int) := by rw [Nat.pow_succ, Int.natCast_mul]; omega
    unfold mt_rp
    by_cases c : r ≤ 0
    · have : r = 0 := by omega
      subst this
      rw [if_pos c, Int.zero_mul, Int.add_zero]; exact ci
    · rw [if_neg c]
      have e : r = 2 * (r / 2) + r % 2 := by omega
      by_cases d : r % 2 = 0
      · rw [if_pos d]
        have := ih (r / 2) it (mt_both h bs bs) Ci (Cb + Cb) (by omega) (by omega) ci (mt_cv_both h2 h5 cb cb)
        have e2 : Ci + r / 2 * (Cb + Cb) = Ci + r * Cb := by
          rw [show r * Cb = (2 * (r / 2)) * Cb by rw [show 2 * (r / 2) = r by omega]]
          rw [Int.mul_add, Int.mul_assoc, Int.two_mul]
        rw [e2] at this; exact this
      · rw [if_neg d]
        have := ih (r / 2) (mt_both h it bs) (mt_both h bs bs) (Ci + Cb) (Cb + Cb) (by omega) (by omega) (mt_cv_both h2 h5 ci cb) (mt_cv_both h2 h5 cb cb)
        have e2 : Ci + Cb + r / 2 * (Cb + Cb) = Ci + r * Cb := by
          rw [show r * Cb = (2 * (r / 2) + 1) * Cb by rw [show 2 * (r / 2) + 1 = r by omega]]
          rw [Int.mul_add, Int.add_mul, Int.mul_assoc, Int.two_mul, Int.one_mul]
          omega
        rw [e2] at this; exact this
theorem mt_cv_rep {h tm : Int} {it : Int → Int} {C : Int} (h2 : 2 ≤ h) (h5 : h ≤ 5) (t0 : 0 ≤ tm) (t1 : tm < 1000000000) (ci : mt_cv h it C) : mt_cv h (mt_rep h tm it) (tm * C) := by
  unfold mt_rep
  by_cases c : tm = 1
  · rw [if_pos c, c, Int.one_mul]; exact ci
  · rw [if_neg c]
    have l : ((2 ^ 40 : Nat) : Int) = 1099511627776 := rfl
    have := mt_cv_rp h2 h5 40 tm (mt_str h) it 0 C t0 (by omega) (mt_cv_str h5) ci
    rw [Int.zero_add] at this
    exact this
theorem mt_cv_we {t : Int → Int} {n h w : Int} {mk : Int → Int → Int} {cx : Int → Int} (n0 : 0 ≤ n) (h2 : 2 ≤ h) (h5 : h ≤ 5) (em : ∀ v, 0 ≤ v → v < w → mt_cv h (mk v) (cx v)) : ∀ (F : Nat) (i d need : Int) (S : Int → Int → Int) (C : Int → Int), 0 ≤ i → i ≤ n → 0 ≤ d → (∀ k, 0 ≤ k → k ≤ d → mt_cv h (S k) (C k)) → mt_gr t n h w F i d need = 0 → mt_cv h (mt_we t n h mk F i d S) (mt_ct t n mt_one cx F i d C) := by
  intro F
  induction F with
  | zero => intro i d need S C _ _ d0 hS _; exact hS 0 (by omega) d0
  | succ F ih =>
    intro i d need S C i0 i1 d0 hS g
    have st : ∀ (d' : Int) (it : Int → Int) (x tm : Int), 0 ≤ d' → d' ≤ d → 0 ≤ tm → tm < 1000000000 → mt_cv h it x → ∀ k, 0 ≤ k → k ≤ d' → mt_cv h (mt_set S d' (mt_both h (S d') (mt_rep h tm it)) k) (mt_st C d' (C d' + tm * x) k) := by
      intro d' it x tm e0 e1 t0 t1 ci k k0 k1
      unfold mt_set mt_st
      by_cases q : k = d'
      · rw [if_pos q, if_pos q]; exact mt_cv_both h2 h5 (hS d' e0 e1) (mt_cv_rep h2 h5 t0 t1 ci)
      · rw [if_neg q, if_neg q]; exact hS k k0 (by omega)
    unfold mt_we mt_ct
    rcases mt_gr_c n0 i0 g with z | z | z | z | z
    · rw [if_pos z.1, if_pos z.1]; exact hS 0 (by omega) d0
    · rw [if_neg (show ¬ n ≤ i by omega), if_neg (show ¬ n ≤ i by omega), if_pos z.2.1, if_pos z.2.1]
      refine ih _ _ 1 _ _ (by omega) (by omega) (by omega) (fun k k0 k1 => ?_) z.2.2.2
      unfold mt_set mt_st
      by_cases q : k = d + 1
      · rw [if_pos q, if_pos q]; exact mt_cv_str h5
      · rw [if_neg q, if_neg q]; exact hS k k0 (by omega)
    · obtain ⟨z1, z2, z3, z4, z5, z6⟩ := z
      have r := mt_tn_r (t := t) (n := n) (i := i + 1) (by omega)
      have rt := mt_tm_r (t := t) (n := n) (i := i + 1) (by omega) z5
      rw [if_neg (show ¬ n ≤ i by omega), if_neg (show ¬ n ≤ i by omega), if_neg (show ¬ t i = 40 by omega), if_neg (show ¬ t i = 40 by omega), if_pos z2, if_pos z2]
      exact ih _ _ 0 _ _ (by omega) r.2 (by omega) (st (d - 1) (S d) (C d) _ (by omega) (by omega) rt.1 rt.2 (hS d d0 (by omega))) z6
    · obtain ⟨z1, z2, z3, z4, z5, z6, z7, z8⟩ := z
      have r := mt_tn_r (t := t) (n := n) (i := i + 2) (by omega)
      have rt := mt_tm_r (t := t) (n := n) (i := i + 2) (by omega) z7
      rw [if_neg (show ¬ n ≤ i by omega), if_neg (show ¬ n ≤ i by omega), if_neg (show ¬ t i = 40 by omega), if_neg (show ¬ t i = 40 by omega), if_neg (show ¬ t i = 41 by omega), if_neg (show ¬ t i = 41 by omega), if_pos z2, if_pos z2]
      exact ih _ _ 0 _ _ (by omega) r.2 d0 (st d _ 1 _ d0 (by omega) rt.1 rt.2 (mt_cv_sgn h5 (by omega) (by omega))) z8
    · obtain ⟨z1, z2, z3, z4, z5, z6⟩ := z
      have r := mt_tn_r (t := t) (n := n) (i := i + 1) (by omega)
      have rt := mt_tm_r (t := t) (n := n) (i := i + 1) (by omega) z5
      rw [if_neg (show ¬ n ≤ i by omega), if_neg (show ¬ n ≤ i by omega), if_neg (show ¬ t i = 40 by omega), if_neg (show ¬ t i = 40 by omega), if_neg (show ¬ t i = 41 by omega), if_neg (show ¬ t i = 41 by omega), if_neg (show ¬ (t i = 120 ∨ t i = 117) by omega), if_neg (show ¬ (t i = 120 ∨ t i = 117) by omega)]
      exact ih _ _ 0 _ _ (by omega) r.2 d0 (st d _ _ _ d0 (by omega) rt.1 rt.2 (em (t i - 65) (by omega) z4)) z6
/-- for all words: mk w is made of as many signs as counted -/
theorem mt_cv_mk {h : Int} {T : Int → Int → Int} {sz : Int → Int} (h2 : 2 ≤ h) (h5 : h ≤ 5) : ∀ (w : Nat), w < 16 → (∀ v : Nat, v ≤ w → mt_good h v (T v) (sz v)) → mt_cv h (mt_mk h T sz w) (mt_cn mt_one T sz w) := by
  intro w
  induction w using Nat.strongRecOn with
  | ind w ih =>
    intro hw hg
    have g := hg w (Nat.le_refl w)
    rw [mt_mk_e hw g, mt_cn_e hw g]
    refine mt_cv_we (w := w) (by have := g.1; omega) h2 h5 (fun v v0 v1 => ?_) _ _ _ 1 _ _ (Int.le_refl 0) (by have := g.1; omega) (Int.le_refl 0) (fun k _ _ => mt_cv_str h5) g.2.2.2
    have := ih v.toNat (by omega) (by omega) (fun u hu => hg u (by omega))
    rw [show ((v.toNat : Nat) : Int) = v by omega] at this
    exact this
/-- and crossings and turns together are all -/
theorem mt_ct_add {t : Int → Int} {n : Int} {cx cu ct : Int → Int} {h w : Int} (n0 : 0 ≤ n) (e : ∀ v, 0 ≤ v → v < w → ct v = cx v + cu v) : ∀ (F : Nat) (i d need : Int) (S SU ST : Int → Int), 0 ≤ i → i ≤ n → 0 ≤ d → (∀ k, 0 ≤ k → k ≤ d → ST k = S k + SU k) → mt_gr t n h w F i d need = 0 → mt_ct t n mt_one ct F i d ST = mt_ct t n mt_sx cx F i d S + mt_ct t n mt_su cu F i d SU := by
  intro F
  induction F with
  | zero => intro i d need S SU ST _ _ d0 hS _; exact hS 0 (by omega) d0
  | succ F ih =>
    intro i d need S SU ST i0 i1 d0 hS g
    have st : ∀ (d' tm x y z : Int), 0 ≤ d' → d' ≤ d → z = x + y → ∀ k, 0 ≤ k → k ≤ d' → mt_st ST d' (ST d' + tm * z) k = mt_st S d' (S d' + tm * x) k + mt_st SU d' (SU d' + tm * y) k := by
      intro d' tm x y z e0 e1 ez k k0 k1
      unfold mt_st
      by_cases q : k = d'
      · rw [if_pos q, if_pos q, if_pos q, hS d' e0 e1, ez, Int.mul_add]; omega
      · rw [if_neg q, if_neg q, if_neg q]; exact hS k k0 (by omega)
    have nl : ∀ X : Prop, [Decidable X] → ∀ a b c d e f : Int, X → a = b + c → (if X then a else d) = (if X then b else e) + (if X then c else f) := fun X _ a b c d e f hX h => by rw [if_pos hX, if_pos hX, if_pos hX]; exact h
    have nn : ∀ X : Prop, [Decidable X] → ∀ a b c d e f : Int, ¬ X → d = e + f → (if X then a else d) = (if X then b else e) + (if X then c else f) := fun X _ a b c d e f hX h => by rw [if_neg hX, if_neg hX, if_neg hX]; exact h
    unfold mt_ct
    rcases mt_gr_c n0 i0 g with z | z | z | z | z
    · exact nl _ _ _ _ _ _ _ z.1 (hS 0 (by omega) d0)
    · refine nn _ _ _ _ _ _ _ (by omega) (nl _ _ _ _ _ _ _ z.2.1 (ih _ _ 1 _ _ _ (by omega) (by omega) (by omega) (fun k k0 k1 => ?_) z.2.2.2))
      unfold mt_st
      by_cases q : k = d + 1
      · rw [if_pos q, if_pos q, if_pos q]; rfl
      · rw [if_neg q, if_neg q, if_neg q]; exact hS k k0 (by omega)
    · obtain ⟨z1, z2, z3, z4, z5, z6⟩ := z
      have r := mt_tn_r (t := t) (n := n) (i := i + 1) (by omega)
      exact nn _ _ _ _ _ _ _ (by omega) (nn _ _ _ _ _ _ _ (by omega) (nl _ _ _ _ _ _ _ z2 (ih _ _ 0 _ _ _ (by omega) r.2 (by omega) (st (d - 1) _ _ _ _ (by omega) (by omega) (hS d d0 (by omega))) z6)))
    · obtain ⟨z1, z2, z3, z4, z5, z6, z7, z8⟩ := z
      have r := mt_tn_r (t := t) (n := n) (i := i + 2) (by omega)
      refine nn _ _ _ _ _ _ _ (by omega) (nn _ _ _ _ _ _ _ (by omega) (nn _ _ _ _ _ _ _ (by omega) (nl _ _ _ _ _ _ _ z2 (ih _ _ 0 _ _ _ (by omega) r.2 d0 (st d _ _ _ _ d0 (by omega) ?_) z8))))
      unfold mt_one mt_sx mt_su
      rcases z2 with y | y
      · rw [if_pos y, if_neg (by omega)]; rfl
      · rw [if_neg (by omega), if_pos y]; rfl
    · obtain ⟨z1, z2, z3, z4, z5, z6⟩ := z
      have r := mt_tn_r (t := t) (n := n) (i := i + 1) (by omega)
      exact nn _ _ _ _ _ _ _ (by omega) (nn _ _ _ _ _ _ _ (by omega) (nn _ _ _ _ _ _ _ (by omega) (nn _ _ _ _ _ _ _ (by omega) (ih _ _ 0 _ _ _ (by omega) r.2 d0 (st d _ _ _ _ d0 (by omega) (e (t i - 65) (by omega) z4)) z6))))
theorem mt_cn_add {h : Int} {T : Int → Int → Int} {sz : Int → Int} : ∀ (w : Nat), w < 16 → (∀ v : Nat, v ≤ w → mt_good h v (T v) (sz v)) → mt_cn mt_one T sz w = mt_cn mt_sx T sz w + mt_cn mt_su T sz w := by
  intro w
  induction w using Nat.strongRecOn with
  | ind w ih =>
    intro hw hg
    have g := hg w (Nat.le_refl w)
    rw [mt_cn_e hw g, mt_cn_e hw g, mt_cn_e hw g]
    refine mt_ct_add (h := h) (w := w) (by have := g.1; omega) (fun v v0 v1 => ?_) _ _ _ 1 _ _ _ (Int.le_refl 0) (by have := g.1; omega) (Int.le_refl 0) (fun k _ _ => rfl) g.2.2.2
    have := ih v.toNat (by omega) (by omega) (fun u hu => hg u (by omega))
    rw [show ((v.toNat : Nat) : Int) = v by omega] at this
    exact this
