/-! signs told by the class are the counts; loops stay few -/
theorem mt_id_r {h : Int} {v : Int → Int} (h2 : 2 ≤ h) (h5 : h ≤ 5) (hv : mt_M h v) (ov : mt_ok h v) : mt_weq h (mt_both h v (mt_str h)) v := by
  have z : ∀ k : Int, 10 ≤ k → mt_str h k = 0 := fun k hk => by unfold mt_str; rw [if_neg (by omega)]
  have s1 : ∀ e, 0 ≤ e → e < h → mt_str h e = e + h := fun e e0 e1 => by rw [(mt_str_e h5 e0 (by omega)).1, if_pos e1]
  have s2 : ∀ e, h ≤ e → e < 2 * h → mt_str h e = e - h := fun e e0 e1 => by rw [(mt_str_e h5 (by omega) e1).1, if_neg (by omega)]
  have P1 : ∀ e, 0 ≤ e → e < 2 * h → mt_P h v (mt_str h) e = v e := fun e e0 e1 => by unfold mt_P; rw [if_pos e1]
  have P2 : ∀ e, 0 ≤ e → e < h → mt_P h v (mt_str h) (2 * h + e) = 3 * h + e := fun e e0 e1 => by unfold mt_P; rw [if_neg (by omega), show 2 * h + e - 2 * h = e by omega, s1 e e0 e1]; omega
  have P3 : ∀ e, h ≤ e → e < 2 * h → mt_P h v (mt_str h) (2 * h + e) = h + e := fun e e0 e1 => by unfold mt_P; rw [if_neg (by omega), show 2 * h + e - 2 * h = e by omega, s2 e e0 e1]; omega
  have R1 : ∀ e, 0 ≤ e → e < 2 * h → mt_R h (mt_ln v) (mt_ln (mt_str h)) e = v (10 + e) := fun e e0 e1 => by unfold mt_R; rw [if_pos e1]; rfl
  have R2 : ∀ e, 0 ≤ e → e < 2 * h → mt_R h (mt_ln v) (mt_ln (mt_str h)) (2 * h + e) = 0 := fun e e0 e1 => by unfold mt_R; rw [if_neg (by omega), show 2 * h + e - 2 * h = e by omega]; exact z _ (by omega)
  have B : ∀ (F : Nat) (e acc : Int), 1 ≤ F → 0 ≤ e → e < 2 * h → mt_e h (mt_out h v (mt_str h) F e) = v e ∧ mt_sum h v (mt_str h) (mt_ln v) (mt_ln (mt_str h)) F e acc = w64 (acc + v (10 + e)) := by
    intro F e acc hF e0 e1
    obtain ⟨F, rfl⟩ : ∃ F', F = F' + 1 := ⟨F - 1, by omega⟩
    obtain ⟨v0, v1, v2, v3⟩ := hv e e0 e1
    by_cases c : h ≤ v e
    · have hin : mt_in h (mt_P h v (mt_str h) e) := by rw [P1 e e0 e1]; exact ⟨by omega, by omega⟩
      have hJ : mt_J h (mt_P h v (mt_str h) e) = 2 * h + (v e - h) := by rw [P1 e e0 e1]; unfold mt_J; rw [if_pos (by omega)]; omega
      have hP : mt_P h v (mt_str h) (2 * h + (v e - h)) = 2 * h + v e := by rw [P2 _ (by omega) (by omega)]; omega
      have hno : ¬ mt_in h (mt_P h v (mt_str h) (2 * h + (v e - h))) := by rw [hP]; intro q; have := q.2; omega
      refine ⟨?_, ?_⟩
      · rw [mt_out_in hin, hJ, mt_out_no hno, hP]; unfold mt_e; rw [if_neg (by omega)]; omega
      · rw [mt_sum_in hin, hJ, mt_sum_out hno, R1 e e0 e1, R2 _ (by omega) (by omega), Int.add_zero]
        exact w64_id (w64_r _)
    · have hno : ¬ mt_in h (mt_P h v (mt_str h) e) := by rw [P1 e e0 e1]; intro q; have := q.1; omega
      refine ⟨?_, ?_⟩
      · rw [mt_out_no hno, P1 e e0 e1]; unfold mt_e; rw [if_pos (by omega)]
      · rw [mt_sum_out hno, R1 e e0 e1]
  have main : ∀ e, 0 ≤ e → e < 2 * h → mt_prod h v (mt_str h) e = v e ∧ mt_sum h v (mt_str h) (mt_ln v) (mt_ln (mt_str h)) 10 (mt_s h e) 0 = w64 (0 + v (10 + e)) := by
    intro e e0 e1
    unfold mt_prod mt_s
    by_cases c : e < h
    · rw [if_pos c]
      exact B 10 e 0 (by omega) e0 e1
    · rw [if_neg c]
      have hin : mt_in h (mt_P h v (mt_str h) (2 * h + e)) := by rw [P3 e (by omega) e1]; exact ⟨by omega, by omega⟩
      have hJ : mt_J h (mt_P h v (mt_str h) (2 * h + e)) = e := by rw [P3 e (by omega) e1]; unfold mt_J; rw [if_neg (by omega)]; omega
      rw [show (10 : Nat) = 9 + 1 from rfl, mt_out_in hin, mt_sum_in hin, hJ, R2 e e0 e1]
      have := B 9 e (w64 (0 + 0)) (by omega) e0 e1
      rw [show w64 (0 + 0) = 0 by decide] at *
      exact this
  have met : ∀ n : Nat, (n : Int) ≤ h → mt_rs h v (mt_str h) n = mt_rs h v (mt_str h) 0 := by
    intro n
    induction n with
    | zero => intro _; rfl
    | succ n ih =>
      intro hn
      have i := ih (by omega)
      conv => lhs; unfold mt_rs
      rw [i]
      have : mb_t (mt_rs h v (mt_str h) 0).1 n = 1 := by
        show mb_t (mt_mm h v (mt_str h) (2 * h).toNat) n = 1
        refine ((mt_mm_bit (a := v) (b := mt_str h) h5 (2 * h).toNat).2 n (by omega) (by omega)).2 ⟨h.toNat + n, by omega, ?_⟩
        have es : mt_s h ((h.toNat + n : Nat) : Int) = 2 * h + (h + n) := by unfold mt_s; rw [if_neg (by omega)]; omega
        rw [es, show (10 : Nat) = 9 + 1 from rfl, mt_hit_s, P3 (h + n) (by omega) (by omega)]
        refine ⟨⟨by omega, by omega⟩, Or.inl ?_⟩
        unfold mt_rl; rw [if_neg (by omega)]; omega
      rw [if_neg (by omega)]
  have r := met h.toNat (by omega)
  refine ⟨fun e e0 e1 => ⟨?_, ?_⟩, ?_, ?_, ?_⟩
  · rw [mt_eq_both h5 e e0 e1, (main e e0 e1).1]
  · rw [mt_both_ln h5 e0 e1, (main e e0 e1).2, Int.zero_add, w64_id (ov.1 e e0 e1)]
  · unfold mt_both; rw [if_neg (by omega), if_neg (by omega), if_pos rfl, r]
    show w64 (v 20 + mt_str h 20) = v 20
    rw [z 20 (by omega), Int.add_zero, w64_id ov.2.1]
  · unfold mt_both; rw [if_neg (by omega), if_neg (by omega), if_neg (by omega), if_pos rfl, r]
    show max (v 21) (mt_str h 21) = v 21
    rw [z 21 (by omega)]; have := ov.2.2.1; omega
  · unfold mt_both; rw [if_neg (by omega), if_neg (by omega), if_neg (by omega), if_neg (by omega), if_pos rfl, r]
    show w64 (v 22 + mt_str h 22) = v 22
    rw [z 22 (by omega), Int.add_zero, w64_id ov.2.2.2]
/-- v is made of C signs -/
def mt_cv (h : Int) (v : Int → Int) (C : Int) : Prop := 0 ≤ C ∧ mt_M h v ∧ mt_ok h v ∧ v 23 = min mt_top C ∧ (C ≤ mt_mst → 0 ≤ v 20 ∧ (C = 0 → mt_weq h v (mt_str h)) ∧ (1 ≤ C → v 20 ≤ 5 * (C - 1)))
theorem mt_rs_lb {h : Int} {a b : Int → Int} (l0 : 0 ≤ a 20 + b 20) (l1 : a 20 + b 20 ≤ 100000000000000) : ∀ n : Nat, n ≤ 5 → a 20 + b 20 ≤ (mt_rs h a b n).2.1 ∧ (mt_rs h a b n).2.1 ≤ a 20 + b 20 + n := by
  intro n
  induction n with
  | zero =>
    intro _
    show a 20 + b 20 ≤ w64 (a 20 + b 20) ∧ w64 (a 20 + b 20) ≤ _
    rw [w64_id ⟨by omega, by omega⟩]; omega
  | succ n ih =>
    intro hn
    obtain ⟨i1, i2⟩ := ih (by omega)
    unfold mt_rs
    split
    · show a 20 + b 20 ≤ w64 ((mt_rs h a b n).2.1 + 1) ∧ w64 ((mt_rs h a b n).2.1 + 1) ≤ _
      rw [w64_id ⟨by omega, by omega⟩]; omega
    · omega
theorem mt_cv_both {h : Int} {a b : Int → Int} {Ca Cb : Int} (h2 : 2 ≤ h) (h5 : h ≤ 5) (ca : mt_cv h a Ca) (cb : mt_cv h b Cb) : mt_cv h (mt_both h a b) (Ca + Cb) := by
  obtain ⟨a0, a1, a2, a3, a4⟩ := ca
  obtain ⟨b0, b1, b2, b3, b4⟩ := cb
  have e20 : mt_both h a b 20 = (mt_rs h a b h.toNat).2.1 := by unfold mt_both; rw [if_neg (by omega), if_neg (by omega), if_pos rfl]
  have e23 : mt_both h a b 23 = w64 (a 23 + min (b 23) (w64 (9000000000000000000 - a 23))) := by unfold mt_both; rw [if_neg (by omega), if_neg (by omega), if_neg (by omega), if_neg (by omega), if_neg (by omega), if_pos rfl]
  refine ⟨by omega, mt_both_M h5 a1 b1, mt_both_ok h5 a2.2.2.1, ?_, fun hc => ?_⟩
  · rw [e23, a3, b3]
    unfold mt_top
    rw [w64_id (x := 9000000000000000000 - min 9000000000000000000 Ca) ⟨by omega, by omega⟩, w64_id ⟨by omega, by omega⟩]
    omega
  · obtain ⟨p1, p2, p3⟩ := a4 (by omega)
    obtain ⟨q1, q2, q3⟩ := b4 (by omega)
    unfold mt_mst at hc
    by_cases za : Ca = 0
    · have w : mt_weq h (mt_both h a b) b := mt_weq_t (mt_both_c (by omega) h5 a1 b1 (p2 za) mt_weq_r) (mt_id h2 h5 b1 b2)
      refine ⟨by rw [w.2.1]; exact q1, fun z => mt_weq_t w (q2 (by omega)), fun z => ?_⟩
      rw [w.2.1]; have := q3 (by omega); omega
    · by_cases zb : Cb = 0
      · have w : mt_weq h (mt_both h a b) a := mt_weq_t (mt_both_c (by omega) h5 a1 b1 mt_weq_r (q2 zb)) (mt_id_r h2 h5 a1 a2)
        refine ⟨by rw [w.2.1]; exact p1, fun z => absurd z (by omega), fun z => ?_⟩
        rw [w.2.1]; have := p3 (by omega); omega
      · have x1 := p3 (by omega)
        have x2 := q3 (by omega)
        have := mt_rs_lb (h := h) (a := a) (b := b) (by omega) (by omega) h.toNat (by omega)
        rw [e20]
        exact ⟨by omega, fun z => absurd z (by omega), fun _ => by omega⟩
theorem mt_cv_str {h : Int} (h5 : h ≤ 5) : mt_cv h (mt_str h) 0 := by
  have z : ∀ k : Int, 10 ≤ k → mt_str h k = 0 := fun k hk => by unfold mt_str; rw [if_neg (by omega)]
  exact ⟨by omega, mt_str_M h5, mt_str_ok h5, by rw [z _ (by omega)]; unfold mt_top; omega, fun _ => ⟨by rw [z _ (by omega)]; omega, fun _ => mt_weq_r, fun c => absurd c (by omega)⟩⟩
theorem mt_cv_sgn {h i u : Int} (h5 : h ≤ 5) (i0 : 0 ≤ i) (i1 : i + 2 ≤ h) : mt_cv h (mt_sgn h i u) 1 := by
  have e20 : mt_sgn h i u 20 = 0 := by unfold mt_sgn; simp
  have e23 : mt_sgn h i u 23 = 1 := by unfold mt_sgn; simp
  exact ⟨by omega, mt_sgn_M h5 i0 i1, mt_sgn_ok h5, by rw [e23]; unfold mt_top; omega, fun _ => ⟨by omega, fun c => absurd c (by omega), fun _ => by omega⟩⟩
theorem mt_cv_rp {h : Int} (h2 : 2 ≤ h) (h5 : h ≤ 5) : ∀ (F : Nat) (r : Int) (it bs : Int → Int) (Ci Cb : Int), 0 ≤ r → r < ((2 ^ F : Nat) : Int) → mt_cv h it Ci → mt_cv h bs Cb → mt_cv h (mt_rp h F r it bs) (Ci + r * Cb) := by
  intro F
  induction F with
  | zero =>
    intro r it bs Ci Cb r0 r1 ci _
    have : ((2 ^ 0 : Nat) : Int) = 1 := rfl
    have : r = 0 := by omega
    subst this
    rw [Int.zero_mul, Int.add_zero]; exact ci
  | succ F ih =>
    intro r it bs Ci Cb r0 r1 ci cb
    have p2 : ((2 ^ (F + 1) : Nat) : Int) = 2 * ((2 ^ F : Nat) : Int) := by rw [Nat.pow_succ, Int.natCast_mul]; omega
    unfold mt_rp
    by_cases c : r ≤ 0
    · have : r = 0 := by omega
      subst this
      rw [if_pos c, Int.zero_mul, Int.add_zero]; exact ci
    · rw [if_neg c]
      have e : r = 2 * (r / 2) + r % 2 := by omega
      by_cases d : r % 2 = 0
      · rw [if_pos d]
        have := ih (r / 2) it (mt_both h bs bs) Ci (Cb + Cb) (by omega) (by omega) ci (mt_cv_both h2 h5 cb cb)
        have e2 : Ci + r / 2 * (Cb + Cb) = Ci + r * Cb := by
          rw [show r * Cb = (2 * (r / 2)) * Cb by rw [show 2 * (r / 2) = r by omega]]
          rw [Int.mul_add, Int.mul_assoc, Int.two_mul]
        rw [e2] at this; exact this
      · rw [if_neg d]
        have := ih (r / 2) (mt_both h it bs) (mt_both h bs bs) (Ci + Cb) (Cb + Cb) (by omega) (by omega) (mt_cv_both h2 h5 ci cb) (mt_cv_both h2 h5 cb cb)
        have e2 : Ci + Cb + r / 2 * (Cb + Cb) = Ci + r * Cb := by
          rw [show r * Cb = (2 * (r / 2) + 1) * Cb by rw [show 2 * (r / 2) + 1 = r by omega]]
          rw [Int.mul_add, Int.add_mul, Int.mul_assoc, Int.two_mul, Int.one_mul]
          omega
        rw [e2] at this; exact this
theorem mt_cv_rep {h tm : Int} {it : Int → Int} {C : Int} (h2 : 2 ≤ h) (h5 : h ≤ 5) (t0 : 0 ≤ tm) (t1 : tm < 1000000000) (ci : mt_cv h it C) : mt_cv h (mt_rep h tm it) (tm * C) := by
  unfold mt_rep
  by_cases c : tm = 1
  · rw [if_pos c, c, Int.one_mul]; exact ci
  · rw [if_neg c]
    have l : ((2 ^ 40 : Nat) : Int) = 1099511627776 := rfl
    have := mt_cv_rp h2 h5 40 tm (mt_str h) it 0 C t0 (by omega) (mt_cv_str h5) ci
    rw [Int.zero_add] at this
    exact this
theorem mt_cv_we {t : Int → Int} {n h w : Int} {mk : Int → Int → Int} {cx : Int → Int} (n0 : 0 ≤ n) (h2 : 2 ≤ h) (h5 : h ≤ 5) (em : ∀ v, 0 ≤ v → v < w → mt_cv h (mk v) (cx v)) : ∀ (F : Nat) (i d need : Int) (S : Int → Int → Int) (C : Int → Int), 0 ≤ i → i ≤ n → 0 ≤ d → (∀ k, 0 ≤ k → k ≤ d → mt_cv h (S k) (C k)) → mt_gr t n h w F i d need = 0 → mt_cv h (mt_we t n h mk F i d S) (mt_ct t n mt_one cx F i d C) := by
  intro F
  induction F with
  | zero => intro i d need S C _ _ d0 hS _; exact hS 0 (by omega) d0
  | succ F ih =>
    intro i d need S C i0 i1 d0 hS g
    have st : ∀ (d' : Int) (it : Int → Int) (x tm : Int), 0 ≤ d' → d' ≤ d → 0 ≤ tm → tm < 1000000000 → mt_cv h it x → ∀ k, 0 ≤ k → k ≤ d' → mt_cv h (mt_set S d' (mt_both h (S d') (mt_rep h tm it)) k) (mt_st C d' (C d' + tm * x) k) := by
      intro d' it x tm e0 e1 t0 t1 ci k k0 k1
      unfold mt_set mt_st
      by_cases q : k = d'
      · rw [if_pos q, if_pos q]; exact mt_cv_both h2 h5 (hS d' e0 e1) (mt_cv_rep h2 h5 t0 t1 ci)
      · rw [if_neg q, if_neg q]; exact hS k k0 (by omega)
    unfold mt_we mt_ct
    rcases mt_gr_c n0 i0 g with z | z | z | z | z
    · rw [if_pos z.1, if_pos z.1]; exact hS 0 (by omega) d0
    · rw [if_neg (show ¬ n ≤ i by omega), if_neg (show ¬ n ≤ i by omega), if_pos z.2.1, if_pos z.2.1]
      refine ih _ _ 1 _ _ (by omega) (by omega) (by omega) (fun k k0 k1 => ?_) z.2.2.2
      unfold mt_set mt_st
      by_cases q : k = d + 1
      · rw [if_pos q, if_pos q]; exact mt_cv_str h5
      · rw [if_neg q, if_neg q]; exact hS k k0 (by omega)
    · obtain ⟨z1, z2, z3, z4, z5, z6⟩ := z
      have r := mt_tn_r (t := t) (n := n) (i := i + 1) (by omega)
      have rt := mt_tm_r (t := t) (n := n) (i := i + 1) (by omega) z5
      rw [if_neg (show ¬ n ≤ i by omega), if_neg (show ¬ n ≤ i by omega), if_neg (show ¬ t i = 40 by omega), if_neg (show ¬ t i = 40 by omega), if_pos z2, if_pos z2]
      exact ih _ _ 0 _ _ (by omega) r.2 (by omega) (st (d - 1) (S d) (C d) _ (by omega) (by omega) rt.1 rt.2 (hS d d0 (by omega))) z6
    · obtain ⟨z1, z2, z3, z4, z5, z6, z7, z8⟩ := z
      have r := mt_tn_r (t := t) (n := n) (i := i + 2) (by omega)
      have rt := mt_tm_r (t := t) (n := n) (i := i + 2) (by omega) z7
      rw [if_neg (show ¬ n ≤ i by omega), if_neg (show ¬ n ≤ i by omega), if_neg (show ¬ t i = 40 by omega), if_neg (show ¬ t i = 40 by omega), if_neg (show ¬ t i = 41 by omega), if_neg (show ¬ t i = 41 by omega), if_pos z2, if_pos z2]
      exact ih _ _ 0 _ _ (by omega) r.2 d0 (st d _ 1 _ d0 (by omega) rt.1 rt.2 (mt_cv_sgn h5 (by omega) (by omega))) z8
    · obtain ⟨z1, z2, z3, z4, z5, z6⟩ := z
      have r := mt_tn_r (t := t) (n := n) (i := i + 1) (by omega)
      have rt := mt_tm_r (t := t) (n := n) (i := i + 1) (by omega) z5
      rw [if_neg (show ¬ n ≤ i by omega), if_neg (show ¬ n ≤ i by omega), if_neg (show ¬ t i = 40 by omega), if_neg (show ¬ t i = 40 by omega), if_neg (show ¬ t i = 41 by omega), if_neg (show ¬ t i = 41 by omega), if_neg (show ¬ (t i = 120 ∨ t i = 117) by omega), if_neg (show ¬ (t i = 120 ∨ t i = 117) by omega)]
      exact ih _ _ 0 _ _ (by omega) r.2 d0 (st d _ _ _ d0 (by omega) rt.1 rt.2 (em (t i - 65) (by omega) z4)) z6
/-- for all words: mk w is made of as many signs as counted -/
theorem mt_cv_mk {h : Int} {T : Int → Int → Int} {sz : Int → Int} (h2 : 2 ≤ h) (h5 : h ≤ 5) : ∀ (w : Nat), w < 16 → (∀ v : Nat, v ≤ w → mt_good h v (T v) (sz v)) → mt_cv h (mt_mk h T sz w) (mt_cn mt_one T sz w) := by
  intro w
  induction w using Nat.strongRecOn with
  | ind w ih =>
    intro hw hg
    have g := hg w (Nat.le_refl w)
    rw [mt_mk_e hw g, mt_cn_e hw g]
    refine mt_cv_we (w := w) (by have := g.1; omega) h2 h5 (fun v v0 v1 => ?_) _ _ _ 1 _ _ (Int.le_refl 0) (by have := g.1; omega) (Int.le_refl 0) (fun k _ _ => mt_cv_str h5) g.2.2.2
    have := ih v.toNat (by omega) (by omega) (fun u hu => hg u (by omega))
    rw [show ((v.toNat : Nat) : Int) = v by omega] at this
    exact this
/-- and crossings and turns together are all -/
theorem mt_ct_add {t : Int → Int} {n : Int} {cx cu ct : Int → Int} {h w : Int} (n0 : 0 ≤ n) (e : ∀ v, 0 ≤ v → v < w → ct v = cx v + cu v) : ∀ (F : Nat) (i d need : Int) (S SU ST : Int → Int), 0 ≤ i → i ≤ n → 0 ≤ d → (∀ k, 0 ≤ k → k ≤ d → ST k = S k + SU k) → mt_gr t n h w F i d need = 0 → mt_ct t n mt_one ct F i d ST = mt_ct t n mt_sx cx F i d S + mt_ct t n mt_su cu F i d SU := by
  intro F
  induction F with
  | zero => intro i d need S SU ST _ _ d0 hS _; exact hS 0 (by omega) d0
  | succ F ih =>
    intro i d need S SU ST i0 i1 d0 hS g
    have st : ∀ (d' tm x y z : Int), 0 ≤ d' → d' ≤ d → z = x + y → ∀ k, 0 ≤ k → k ≤ d' → mt_st ST d' (ST d' + tm * z) k = mt_st S d' (S d' + tm * x) k + mt_st SU d' (SU d' + tm * y) k := by
      intro d' tm x y z e0 e1 ez k k0 k1
      unfold mt_st
      by_cases q : k = d'
      · rw [if_pos q, if_pos q, if_pos q, hS d' e0 e1, ez, Int.mul_add]; omega
      · rw [if_neg q, if_neg q, if_neg q]; exact hS k k0 (by omega)
    have nl : ∀ X : Prop, [Decidable X] → ∀ a b c d e f : Int, X → a = b + c → (if X then a else d) = (if X then b else e) + (if X then c else f) := fun X _ a b c d e f hX h => by rw [if_pos hX, if_pos hX, if_pos hX]; exact h
    have nn : ∀ X : Prop, [Decidable X] → ∀ a b c d e f : Int, ¬ X → d = e + f → (if X then a else d) = (if X then b else e) + (if X then c else f) := fun X _ a b c d e f hX h => by rw [if_neg hX, if_neg hX, if_neg hX]; exact h
    unfold mt_ct
    rcases mt_gr_c n0 i0 g with z | z | z | z | z
    · exact nl _ _ _ _ _ _ _ z.1 (hS 0 (by omega) d0)
    · refine nn _ _ _ _ _ _ _ (by omega) (nl _ _ _ _ _ _ _ z.2.1 (ih _ _ 1 _ _ _ (by omega) (by omega) (by omega) (fun k k0 k1 => ?_) z.2.2.2))
      unfold mt_st
      by_cases q : k = d + 1
      · rw [if_pos q, if_pos q, if_pos q]; rfl
      · rw [if_neg q, if_neg q, if_neg q]; exact hS k k0 (by omega)
    · obtain ⟨z1, z2, z3, z4, z5, z6⟩ := z
      have r := mt_tn_r (t := t) (n := n) (i := i + 1) (by omega)
      exact nn _ _ _ _ _ _ _ (by omega) (nn _ _ _ _ _ _ _ (by omega) (nl _ _ _ _ _ _ _ z2 (ih _ _ 0 _ _ _ (by omega) r.2 (by omega) (st (d - 1) _ _ _ _ (by omega) (by omega) (hS d d0 (by omega))) z6)))
    · obtain ⟨z1, z2, z3, z4, z5, z6, z7, z8⟩ := z
      have r := mt_tn_r (t := t) (n := n) (i := i + 2) (by omega)
      refine nn _ _ _ _ _ _ _ (by omega) (nn _ _ _ _ _ _ _ (by omega) (nn _ _ _ _ _ _ _ (by omega) (nl _ _ _ _ _ _ _ z2 (ih _ _ 0 _ _ _ (by omega) r.2 d0 (st d _ _ _ _ d0 (by omega) ?_) z8))))
      unfold mt_one mt_sx mt_su
      rcases z2 with y | y
      · rw [if_pos y, if_neg (by omega)]; rfl
      · rw [if_neg (by omega), if_pos y]; rfl
    · obtain ⟨z1, z2, z3, z4, z5, z6⟩ := z
      have r := mt_tn_r (t := t) (n := n) (i := i + 1) (by omega)
      exact nn _ _ _ _ _ _ _ (by omega) (nn _ _ _ _ _ _ _ (by omega) (nn _ _ _ _ _ _ _ (by omega) (nn _ _ _ _ _ _ _ (by omega) (ih _ _ 0 _ _ _ (by omega) r.2 d0 (st d _ _ _ _ d0 (by omega) (e (t i - 65) (by omega) z4)) z6))))
theorem mt_cn_add {h : Int} {T : Int → Int → Int} {sz : Int → Int} : ∀ (w : Nat), w < 16 → (∀ v : Nat, v ≤ w → mt_good h v (T v) (sz v)) → mt_cn mt_one T sz w = mt_cn mt_sx T sz w + mt_cn mt_su T sz w := by
  intro w
  induction w using Nat.strongRecOn with
  | ind w ih =>
    intro hw hg
    have g := hg w (Nat.le_refl w)
    rw [mt_cn_e hw g, mt_cn_e hw g, mt_cn_e hw g]
    refine mt_ct_add (h := h) (w := w) (by have := g.1; omega) (fun v v0 v1 => ?_) _ _ _ 1 _ _ _ (Int.le_refl 0) (by have := g.1; omega) (Int.le_refl 0) (fun k _ _ => rfl) g.2.2.2
    have := ih v.toNat (by omega) (by omega) (fun u hu => hg u (by omega))
    rw [show ((v.toNat : Nat) : Int) = v by omega] at this
    exact this
/-! the class's Sentences: opened (that it ends) -/
theorem s_fill32 {Q : ml_St → Prop} {NL : Nat} {p x : Int} {σ : ml_St} (hN : NL ≤ 10000) (k : ∀ σ', (∀ j, j ≠ p → σ' j = σ j) → (∀ i : Int, 0 ≤ i → i < NL → σ' p i = x) → Q σ') : f_J7_fill_53178 σ NL p x Q := by
  have L : ∀ (N : Nat) (n : Int) (σ1 : ml_St), 0 ≤ n → n ≤ NL → NL - n < N → (∀ j, j ≠ p → σ1 j = σ j) → (∀ i, 0 ≤ i → i < n → σ1 p i = x) → f_J7_fill_53178_u5 Q (f_J7_fill_53178_u20 Q NL p) NL p N σ1 x n NL := by
    intro N
    induction N with
    | zero => intro n σ1 n0 n1 hN; omega
    | succ N ih =>
      intro n σ1 n0 n1 hN f hx
      unfold f_J7_fill_53178_u5
      unfold f_J7_fill_53178_u20
      refine ⟨fun c => k σ1 f (fun i i0 i1 => hx i i0 (by omega)), fun c => ⟨n0, by omega, fun σ2 s2 => ⟨mt_I (by omega) (by omega), fun y e => ?_⟩⟩⟩
      subst e
      refine ih (n + 1) σ2 (by omega) (by omega) (by omega) (fun j hj => by rw [s2, ml_up_k hj, f j hj]) (fun i i0 i1 => ?_)
      rw [s2]
      by_cases q : i = n
      · rw [q, ml_up_same]
      · rw [ml_up_i q]; exact hx i i0 (by omega)
  unfold f_J7_fill_53178 f_J7_fill_53178_u0
  intro y e
  subst e
  exact ⟨NL + 1, L _ 0 σ (by omega) (by omega) (by omega) (fun _ _ => rfl) (fun i i0 i1 => absurd i1 (by omega))⟩
theorem s_fill64 {Q : ml_St → Prop} {NL : Nat} {p x : Int} {σ : ml_St} (hN : NL ≤ 10000) (k : ∀ σ', (∀ j, j ≠ p → σ' j = σ j) → (∀ i : Int, 0 ≤ i → i < NL → σ' p i = x) → Q σ') : f_J7_fill_d0a16 σ NL p x Q := by
  have L : ∀ (N : Nat) (n : Int) (σ1 : ml_St), 0 ≤ n → n ≤ NL → NL - n < N → (∀ j, j ≠ p → σ1 j = σ j) → (∀ i, 0 ≤ i → i < n → σ1 p i = x) → f_J7_fill_d0a16_u6 Q (f_J7_fill_d0a16_u22 Q NL p) NL p N σ1 x n NL := by
    intro N
    induction N with
    | zero => intro n σ1 n0 n1 hN; omega
    | succ N ih =>
      intro n σ1 n0 n1 hN f hx
      unfold f_J7_fill_d0a16_u6
      unfold f_J7_fill_d0a16_u22
      refine ⟨fun c => k σ1 f (fun i i0 i1 => hx i i0 (by omega)), fun c => ⟨n0, by omega, fun σ2 s2 => ⟨mt_I (by omega) (by omega), fun y e => ?_⟩⟩⟩
      subst e
      refine ih (n + 1) σ2 (by omega) (by omega) (by omega) (fun j hj => by rw [s2, ml_up_k hj, f j hj]) (fun i i0 i1 => ?_)
      rw [s2]
      by_cases q : i = n
      · rw [q, ml_up_same]
      · rw [ml_up_i q]; exact hx i i0 (by omega)
  unfold f_J7_fill_d0a16 f_J7_fill_d0a16_u0
  intro y e
  subst e
  exact ⟨NL + 1, L _ 0 σ (by omega) (by omega) (by omega) (fun _ _ => rfl) (fun i i0 i1 => absurd i1 (by omega))⟩
def mt_self (σ : ml_St) (k : Int) (x : Int) : Int := if x < 10 then σ (k + 1) x else if x < 20 then σ (k + 2) (x - 10) else σ k (x - 18)
theorem mt_wv_self {h k : Int} {σ : ml_St} (h5 : h ≤ 5) : mt_wv h σ k (mt_self σ k) := by
  refine ⟨fun e e0 e1 => ?_, ?_⟩
  · unfold mt_self
    rw [if_pos (by omega), if_neg (by omega), if_pos (by omega), show 10 + e - 10 = e by omega]; exact ⟨rfl, rfl⟩
  · unfold mt_self; simp
/-- the sentences under way: places p, letters L; the places below frm are done, and of frm the letters below i -/
def mt_fs (σ σ' : ml_St) : Prop := ∀ j, (j < 55 ∨ 69 < j) → σ' j = σ j
theorem mt_fs_t {σ σ1 σ2 : ml_St} (a : mt_fs σ σ1) (b : mt_fs σ1 σ2) : mt_fs σ σ2 := fun j hj => by rw [b j hj, a j hj]
def ic_B9 (h told : Int) (mk : Int → Int → Int) (set frm i : Int) (σ : ml_St) : Prop := σ 55 0 = set ∧ 1 ≤ σ 55 1 ∧ σ 55 1 ≤ 6 ∧ (∀ a, 0 ≤ a → a < σ 55 1 → mt_md told mk (σ 56 a)) ∧ 1 ≤ σ 55 2 ∧ σ 55 2 ≤ 946 ∧ (∀ x, 0 ≤ x → x < 945 → -1 ≤ σ 57 x ∧ σ 57 x < σ 55 2 ∧ σ 57 x ≠ 0) ∧ (∀ q, 1 ≤ q → q < σ 55 2 → ∃ x, 0 ≤ x ∧ x < 945 ∧ σ 57 x = q) ∧ (∀ q a, 0 ≤ q → 0 ≤ a → a < σ 55 1 → (q < frm ∨ (q = frm ∧ a < i)) → 1 ≤ σ 58 (6 * q + a) ∧ σ 58 (6 * q + a) < σ 55 2 ∧ 0 ≤ σ 59 (6 * q + a) ∧ σ 59 (6 * q + a) ≤ 3) ∧ (∀ q, 0 ≤ q → q < σ 55 2 → ∃ v, mt_M h v ∧ ∀ e, 0 ≤ e → e < 2 * h → σ 61 (10 * q + e) = v e) ∧ σ 64 2 = 0
theorem mb_min3 {x : Int} (h0 : 0 ≤ x) : 0 ≤ b_l2i (min x 3) ∧ b_l2i (min x 3) ≤ 3 := by
  have : b_l2i (min x 3) = min x 3 := mb_l2i (by omega) (by omega)
  omega
theorem s_keep {Q : ml_St → Prop} {p k : Int} {σ : ml_St} (ep : σ 55 2 = p) (p0 : 0 ≤ p) (p1 : p ≤ 945) (k' : ∀ σ', (∀ j, j ≠ 55 → j ≠ 61 → σ' j = σ j) → (∀ b, b ≠ 2 → σ' 55 b = σ 55 b) → σ' 55 2 = p + 1 → (∀ q, (q < 10 * p ∨ 10 * p + 10 ≤ q) → σ' 61 q = σ 61 q) → (∀ e, 0 ≤ e → e < 10 → σ' 61 (10 * p + e) = σ (k + 1) e) → Q σ') (kn : k + 1 ≠ 61) : f_X7_keep σ k Q := by
  unfold f_X7_keep f_X7_keep_u0
  rw [ep]
  refine fun _ => ⟨mt_I (by omega) (by omega), by omega, by omega, by omega, by omega, by omega, fun σ3 s3 => ?_⟩
  have e3 : σ3 55 = σ 55 := by rw [s3, mt_cpy_k (by omega)]
  rw [e3, ep]
  refine fun _ => ⟨mt_I (by omega) (by omega), fun σ6 s6 => k' σ6 (fun j h1 h2 => by rw [s6, ml_up_k h1, s3, mt_cpy_k h2]) (fun b hb => by rw [s6, ml_up_i hb, e3]) (by rw [s6, ml_up_same]) (fun q hq => ?_) (fun e e0 e1 => ?_)⟩
  · rw [s6, ml_up_k (by omega), s3, mt_cpy2, if_neg (by omega)]
  · rw [s6, ml_up_k (by omega), s3, mt_cpy2, if_pos ⟨rfl, by omega, by omega⟩]; congr 1; omega
theorem mt_i64b {h : Int} {a b : Int → Int} : ∀ n : Nat, I64 (mt_rs h a b n).2.1 := by
  intro n
  induction n with
  | zero => exact w64_r _
  | succ n ih => unfold mt_rs; split; exact w64_r _; exact ih
theorem mt_mm_c0 {h : Int} {a b a' b' : Int → Int} (ea : mt_eq h a a') (eb : mt_eq h b b') : mt_mm h a b (2 * h).toNat = mt_mm h a' b' (2 * h).toNat := by
  rcases Int.lt_or_le h 0 with z | z
  · rw [show (2 * h).toNat = 0 by omega]; rfl
  · exact mt_mm_c ea eb _ (by omega)
/-- how many loops lie within: by the pairs and by what is within both -/
theorem mt_rs_p {h : Int} {a b a' : Int → Int} (h2 : 0 ≤ h) (h5 : h ≤ 5) (ha : mt_M h a) (hb : mt_M h b) (ea : mt_eq h a a') (e20 : a 20 = a' 20) : ∀ n : Nat, (n : Int) ≤ h → (mt_rs h a b n).1 = (mt_rs h a' b n).1 ∧ (mt_rs h a b n).2.1 = (mt_rs h a' b n).2.1 := by
  intro n
  induction n with
  | zero =>
    intro _
    unfold mt_rs
    rw [mt_mm_c0 ea (fun _ _ _ => rfl : mt_eq h b b), e20]
    exact ⟨rfl, rfl⟩
  | succ n ih =>
    intro hn
    obtain ⟨i1, i2⟩ := ih (by omega)
    have hC := mt_rs_C h2 h5 ha hb n (by omega)
    unfold mt_rs
    by_cases q : mb_t (mt_rs h a b n).1 n = 0
    · have er : (mt_rg h a b n).1 = (mt_rg h a' b n).1 := by
        obtain ⟨o, t, e1, e2, o0, o1, t0, t1, n1, n2, e3, e4, z1, z2, c⟩ := mt_rg_C h5 ha hb hC (by omega) (by omega) q
        have a1 := ea (b n + h) (by omega) (by omega)
        have e17 : (mt_r1 h a b 0 0 n).2.2 = t := by show a (b n + h) - h = t; rw [e1]; omega
        have e17' : (mt_r1 h a' b 0 0 n).2.2 = t := by show a' (b n + h) - h = t; rw [← a1, e1]; omega
        have d1 : (mt_r1 h a b 0 0 n).1 = (mt_r1 h a' b 0 0 n).1 := by unfold mt_r1; rw [a1]
        unfold mt_rg
        rw [e17, e17']
        rcases c with c | ⟨nc, o2, f1, f2, p0, p1, k1, k2, k3, f3, f4, yy⟩
        · rw [if_pos c, if_pos c]; exact d1
        · rw [if_neg nc, if_neg nc, d1]
          have a2 := ea (b t + h) (by omega) (by omega)
          show b_or _ (b_or (b_shl 1 (b t)) (b_shl 1 (a (b t + h) - h))) = b_or _ (b_or (b_shl 1 (b t)) (b_shl 1 (a' (b t + h) - h)))
          rw [a2]
      rw [if_pos q, if_pos (by rw [← i1]; exact q)]
      exact ⟨by show b_or _ _ = b_or _ _; rw [i1, er], by show w64 _ = w64 _; rw [i2]⟩
    · rw [if_neg q, if_neg (by rw [← i1]; exact q)]
      exact ⟨i1, i2⟩
theorem mt_both_p {h : Int} {a b a' : Int → Int} (h2 : 0 ≤ h) (h5 : h ≤ 5) (ha : mt_M h a) (hb : mt_M h b) (ea : mt_eq h a a') (e20 : a 20 = a' 20) : mt_eq h (mt_both h a b) (mt_both h a' b) ∧ mt_both h a b 20 = mt_both h a' b 20 := by
  refine ⟨fun e e0 e1 => ?_, ?_⟩
  · rw [mt_eq_both h5 e e0 e1, mt_eq_both h5 e e0 e1]
    unfold mt_prod
    rw [mt_eq_out ea (fun _ _ _ => rfl : mt_eq h b b) _ _ (mt_s_all e0 e1).1]
  · have e : ∀ a, mt_both h a b 20 = (mt_rs h a b h.toNat).2.1 := fun a => by unfold mt_both; rw [if_neg (by omega), if_neg (by omega), if_pos rfl]
    rw [e, e]
    exact (mt_rs_p h2 h5 ha hb ea e20 h.toNat (by omega)).2
theorem mq_w_e {h : Int} {f : Int → Int} (h5 : h ≤ 5) : mt_eq h (mq_w f) f := fun e e0 e1 => by unfold mq_w; rw [if_pos (by omega)]
theorem mt_num_e {h : Int} {f g : Int → Int} (h2 : 2 ≤ h) (h5 : h ≤ 5) (hf : mt_M h f) (e : mt_eq h f g) : mt_num h f = mt_num h g := by
  have c : ∀ (k e o s : Nat), (∀ x : Nat, e ≤ x → x < e + k → f x = g x) → mt_nm f k e o s = mt_nm g k e o s := by
    intro k
    induction k with
    | zero => intro e o s _; rfl
    | succ k ih =>
      intro e o s h
      have i := fun o s => ih (e + 1) o s (fun x h1 h2 => h x (by omega) (by omega))
      unfold mt_nm
      rw [h e (by omega) (by omega), i, i]
  unfold mt_num
  exact c _ _ _ _ (fun x _ h2 => e x (by omega) (by omega))
theorem s_leadOn {Q : ml_St → Prop} {h told set frm : Int} {mk S0 : Int → Int → Int} {C : Int → Int} {σ0 : ml_St} (h2 : 2 ≤ h) (h5 : h ≤ 5) (t16 : told ≤ 16) (f0 : 0 ≤ frm) (fp : frm < σ0 55 2) (b : ic_B9 h told mk set frm 0 σ0) (Y : ic_Y h mk frm 0 S0 σ0) (wm : ∀ w, mt_md told mk w → mt_wv h σ0 (121 + 6 * w) (mk w) ∧ mt_cv h (mk w) (C w)) (k : ∀ σ S, mt_fs σ0 σ → ic_B9 h told mk set (frm + 1) 0 σ → ic_Y h mk (frm + 1) 0 S σ → σ0 55 2 ≤ σ 55 2 → σ 55 1 = σ0 55 1 → σ 56 = σ0 56 → Q σ) : f_X7_leadOn σ0 frm h Q := by
  have L : ∀ (N : Nat) (i : Int) (σ : ml_St) (S : Int → Int → Int), 0 ≤ i → i ≤ 6 → 6 - i < N → mt_fs σ0 σ → ic_B9 h told mk set frm i σ → ic_Y h mk frm i S σ → σ0 55 2 ≤ σ 55 2 → σ 55 1 = σ0 55 1 → σ 56 = σ0 56 → f_X7_leadOn_u3 Q (f_X7_leadOn_u148 Q) N σ frm h i := by
    intro N
    induction N with
    | zero => intro i σ S i0 i1 hN; omega
    | succ N ih =>
      intro i σ S i0 i1 hN f b Y hp hL hl
      obtain ⟨b0, b1, b2, b3, b4, b5, b6, b7, b8, b9, b10⟩ := b
      unfold f_X7_leadOn_u3
      refine fun _ => ⟨fun c => ?_, fun c => ⟨mt_I (by omega) (by omega), by omega, by omega, by omega, by omega, by omega, fun σ4 s4 => ⟨i0, by omega, ?_⟩⟩⟩
      · unfold f_X7_leadOn_u148
        refine k σ S f ⟨b0, b1, b2, b3, b4, b5, b6, b7, fun q a q0 a0 a1 hq => b8 q a q0 a0 a1 (by omega), b9, b10⟩ ?_ hp hL hl
        obtain ⟨⟨y1, y2, y3, y4, y5, y6⟩, y7, y8, y9, y10⟩ := Y
        have up : ∀ p a, 0 ≤ a → a < σ 55 1 → mt_bl p a (frm + 1) 0 → mt_bl p a frm i := fun p a a0 a1 x => by unfold mt_bl at *; omega
        have dn : ∀ p a, a < σ 55 1 → mt_bl p a frm i → mt_bl p a (frm + 1) 0 := fun p a a1 x => by unfold mt_bl at *; omega
        exact ⟨⟨y1, y2, y3, y4, fun p a p0 a0 a1 x => y5 p a p0 a0 a1 (up p a a0 a1 x), fun q q1 q2 => by
          obtain ⟨p, a, p0, p1, a0, a1, x, e⟩ := y6 q q1 q2
          exact ⟨p, a, p0, p1, a0, a1, dn p a a1 x, e⟩⟩, fun p a p0 a0 a1 x => y7 p a p0 a0 a1 (up p a a0 a1 x), y8, y9, y10⟩
      have k4 : ∀ j, j ≠ 65 → σ4 j = σ j := fun j hj => by rw [s4, mt_cpy_k hj]
      rw [k4 56 (by omega)]
      have md := b3 i i0 (by omega)
      have md0 := md.1
      have md1 := md.2.1
      refine fun _ => ⟨by omega, by omega, ?_⟩
      obtain ⟨wv, cv⟩ := wm _ md
      obtain ⟨⟨y1, y2, y3, y4, y5, y6⟩, y7, y8, y9, y10⟩ := Y
      have v1 := y3 frm f0 (by omega)
      have eh : mt_eq h (mt_self σ4 64) (S frm) := fun e e0 e1 => by
        unfold mt_self
        rw [if_pos (by omega), s4, mt_cpy2, if_pos ⟨by omega, e0, by omega⟩, show frm * 10 + (e - 0) = 10 * frm + e by omega]
        exact y8 frm e f0 (by omega) e0 e1
      have hM : mt_M h (mt_self σ4 64) := mt_eq_M eh v1
      have s20 : mt_self σ4 64 20 = 0 := by unfold mt_self; rw [if_neg (by omega), if_neg (by omega), k4 64 (by omega)]; exact b10
      rw [show 119 + 6 * σ 56 i + 2 = 121 + 6 * σ 56 i by omega]
      have wv4 : mt_wv h σ4 (121 + 6 * σ 56 i) (mk (σ 56 i)) := mt_wv_eq (by rw [k4 _ (by omega), f _ (by omega)]) (by rw [k4 _ (by omega), f _ (by omega)]) (by rw [k4 _ (by omega), f _ (by omega)]) wv
      refine s_beBoth h2 h5 (by omega) (by omega) hM cv.2.1 (mt_wv_self h5) wv4 (fun σ7 f7 w7 => ?_)
      have wS : mt_eq h (mt_self σ4 64) (mq_w (S frm)) := fun e e0 e1 => by rw [mq_w_e h5 e e0 e1]; exact eh e e0 e1
      obtain ⟨uu, uu20⟩ := mt_both_p (by omega) h5 hM cv.2.1 wS (by rw [s20]; unfold mq_w; rw [if_neg (by omega)])
      generalize hu : mt_both h (mt_self σ4 64) (mk (σ 56 i)) = u at *
      have uM : mt_M h u := by rw [← hu]; exact mt_both_M h5 hM cv.2.1
      have u20 : 0 ≤ u 20 := by
        have c5 := cv.2.2.2.2
        have c23 := cv.2.2.2.1
        have m23 := md.2.2
        have C0 := cv.1
        have hc : C (σ 56 i) ≤ mt_mst := by unfold mt_mst mt_top at *; omega
        obtain ⟨l1, l2, l3⟩ := c5 hc
        unfold mt_mst at hc
        have lub : mk (σ 56 i) 20 ≤ 5000000000000 := by
          by_cases z : C (σ 56 i) = 0
          · have := (l2 z).2.1
            have z0 : mt_str h 20 = 0 := by unfold mt_str; rw [if_neg (by omega)]
            omega
          · have := l3 (by omega); omega
        have := mt_rs_lb (h := h) (a := mt_self σ4 64) (b := mk (σ 56 i)) (by omega) (by omega) h.toNat (by omega)
        have e20 : u 20 = (mt_rs h (mt_self σ4 64) (mk (σ 56 i)) h.toNat).2.1 := by rw [← hu]; unfold mt_both; rw [if_neg (by omega), if_neg (by omega), if_pos rfl]
        omega
      have num := mt_num_lt h2 h5 uM
      have k7 : ∀ j, j ≠ 65 → j ≠ 67 → j ≠ 68 → j ≠ 69 → σ7 j = σ j := fun j h1 h2 h3 h4 => by rw [f7 j h2 (by omega) (by omega), k4 j h1]
      refine s_number h2 h5 uM (mt_eq_wa w7).1 (fun _ => ⟨by omega, by omega, ?_⟩)
      generalize hx : (mt_num h u : Int) = x at *
      have x0 : 0 ≤ x := by omega
      have x1 : x < 945 := by omega
      have ep : σ7 55 = σ 55 := k7 55 (by omega) (by omega) (by omega) (by omega)
      have e57 : σ7 57 = σ 57 := k7 57 (by omega) (by omega) (by omega) (by omega)
      -- next and more are noted
      have NT : ∀ (σ8 : ml_St), (∀ j, j ≠ 55 → j ≠ 57 → j ≠ 61 → σ8 j = σ7 j) → (∀ b, b ≠ 2 → σ8 55 b = σ 55 b) → σ 55 2 ≤ σ8 55 2 → σ8 55 2 ≤ 946 → (∀ y, 0 ≤ y → y < 945 → -1 ≤ σ8 57 y ∧ σ8 57 y < σ8 55 2 ∧ σ8 57 y ≠ 0) → (∀ q, 1 ≤ q → q < σ8 55 2 → ∃ y, 0 ≤ y ∧ y < 945 ∧ σ8 57 y = q) → (∀ q, 0 ≤ q → q < σ8 55 2 → ∃ v, mt_M h v ∧ ∀ e, 0 ≤ e → e < 2 * h → σ8 61 (10 * q + e) = v e) → 1 ≤ σ8 57 x → (∃ S8 : Int → Int → Int, (∀ q, 0 ≤ q → q < σ 55 2 → S8 q = S q) ∧ mt_eq h (S8 (σ8 57 x)) u ∧ (σ8 55 2 = σ 55 2 ∨ (σ8 55 2 = σ 55 2 + 1 ∧ σ8 57 x = σ 55 2)) ∧ (∀ p, 0 ≤ p → p < σ8 55 2 → mt_M h (S8 p)) ∧ (∀ p q, 1 ≤ p → p < q → q < σ8 55 2 → ¬ mt_eq h (S8 p) (S8 q)) ∧ (∀ p e, 0 ≤ p → p < σ8 55 2 → 0 ≤ e → e < 2 * h → σ8 61 (10 * p + e) = S8 p e) ∧ (∀ q, 1 ≤ q → q < σ8 55 2 → σ8 57 (mt_num h (S8 q)) = q) ∧ ∀ y, 0 ≤ y → y < 945 → σ8 57 y ≠ -1 → (mt_num h (S8 (σ8 57 y)) : Int) = y) → f_X7_leadOn_u97 Q (f_X7_leadOn_u3 Q (f_X7_leadOn_u148 Q) N) σ8 frm h i x := by
        intro σ8 f8 fb8 g1 g2 g6 g7 g9 gx GS
        obtain ⟨S8, t1, t2, t3, t4, t5, t6, t7, t8⟩ := GS
        have e67 : σ8 67 2 = u 20 := by rw [f8 67 (by omega) (by omega) (by omega)]; exact w7.2.1
        unfold f_X7_leadOn_u97
        refine ⟨mt_I (by omega) (by omega), mt_I (by omega) (by omega), x0, x1, fun _ => ⟨by omega, by omega, fun σ9 s9 => ⟨mt_I (by omega) (by omega), mt_I (by omega) (by omega), ?_⟩⟩⟩
        rw [show σ9 67 2 = u 20 by rw [s9, ml_up_k (by omega), e67]]
        refine fun _ => ⟨by omega, by omega, fun σ10 s10 => ⟨mt_I (by omega) (by omega), fun y e => ?_⟩⟩
        subst e
        have m3 := mb_min3 u20
        have k10 : ∀ j, j ≠ 58 → j ≠ 59 → σ10 j = σ8 j := fun j h1 h2 => by rw [s10, ml_up_k h2, s9, ml_up_k h1]
        have fs10 : mt_fs σ0 σ10 := fun j hj => by rw [k10 j (by omega) (by omega), f8 j (by omega) (by omega) (by omega), k7 j (by omega) (by omega) (by omega) (by omega), f j hj]
        have e1 : σ10 55 1 = σ 55 1 := by rw [k10 55 (by omega) (by omega), fb8 1 (by omega)]
        have e0 : σ10 55 0 = σ 55 0 := by rw [k10 55 (by omega) (by omega), fb8 0 (by omega)]
        have e56 : σ10 56 = σ 56 := by rw [k10 56 (by omega) (by omega), f8 56 (by omega) (by omega) (by omega), k7 56 (by omega) (by omega) (by omega) (by omega)]
        have v58 : ∀ q a, 0 ≤ a → a < σ 55 1 → σ10 58 (6 * q + a) = if q = frm ∧ a = i then σ8 57 x else σ 58 (6 * q + a) := fun q a a0 a1 => by
          rw [s10, ml_up_k (by omega), s9]
          by_cases z : q = frm ∧ a = i
          · rw [if_pos z, z.1, z.2, show frm * 6 + i = 6 * frm + i by omega, ml_up_same]
          · rw [if_neg z, ml_up_i (by omega), f8 58 (by omega) (by omega) (by omega), k7 58 (by omega) (by omega) (by omega) (by omega)]
        have v59 : ∀ q a, 0 ≤ a → a < σ 55 1 → σ10 59 (6 * q + a) = if q = frm ∧ a = i then b_l2i (min (u 20) 3) else σ 59 (6 * q + a) := fun q a a0 a1 => by
          rw [s10]
          by_cases z : q = frm ∧ a = i
          · rw [if_pos z, z.1, z.2, show frm * 6 + i = 6 * frm + i by omega, ml_up_same]
          · rw [if_neg z, ml_up_i (by omega), s9, ml_up_k (by omega), f8 59 (by omega) (by omega) (by omega), k7 59 (by omega) (by omega) (by omega) (by omega)]
        have YY : ic_Y h mk frm (i + 1) S8 σ10 := by
          unfold ic_Y
          rw [e1, e56, k10 55 (by omega) (by omega), k10 57 (by omega) (by omega), k10 61 (by omega) (by omega)]
          have P8 : σ 55 2 ≤ σ8 55 2 := g1
          have old : ∀ p a, a < σ 55 1 → mt_bl p a frm (i + 1) → (p = frm ∧ a = i) ∨ (mt_bl p a frm i ∧ ¬ (p = frm ∧ a = i)) := fun p a a1 z => by unfold mt_bl at *; omega
          refine ⟨⟨by omega, by rw [t1 0 (by omega) (by omega)]; exact y2, t4, t5, fun p a p0 a0 a1 z => ?_, fun q q1 q2 => ?_⟩, fun p a p0 a0 a1 z => ?_, t6, t7, t8⟩
          · show 1 ≤ σ10 58 (6 * p + a) ∧ σ10 58 (6 * p + a) < σ8 55 2 ∧ mt_eq h (S8 (σ10 58 (6 * p + a))) _ ∧ ∀ q, 1 ≤ q → q < σ10 58 (6 * p + a) → ∃ p' a', 0 ≤ p' ∧ 0 ≤ a' ∧ a' < σ 55 1 ∧ mt_bl p' a' p a ∧ σ10 58 (6 * p' + a') = q
            rw [v58 p a a0 a1]
            rcases old p a a1 z with z | ⟨z, zn⟩
            · rw [if_pos z, z.1, z.2, t1 frm f0 (by omega)]
              refine ⟨gx, (g6 x x0 x1).2.1, fun e e0 e1 => by rw [t2 e e0 e1]; exact uu e e0 e1, fun q q1 q2 => ?_⟩
              have qP : q < σ 55 2 := by have := (g6 x x0 x1).2.1; omega
              obtain ⟨p', a', p0', p1', a0', a1', x', e'⟩ := y6 q q1 qP
              refine ⟨p', a', p0', a0', a1', x', ?_⟩
              rw [v58 p' a' a0' a1', if_neg (by unfold mt_bl at x'; omega)]; exact e'
            · rw [if_neg zn]
              obtain ⟨w1, w2, w3, w4⟩ := y5 p a p0 a0 a1 z
              have w1 : 1 ≤ σ 58 (6 * p + a) := w1
              have w2 : σ 58 (6 * p + a) < σ 55 2 := w2
              have pf : p ≤ frm := by unfold mt_bl at z; omega
              refine ⟨w1, by omega, ?_, fun q q1 q2 => ?_⟩
              · rw [t1 _ (by omega) w2, t1 p p0 (by omega)]; exact w3
              · obtain ⟨p', a', p0', a0', a1', x', e'⟩ := w4 q q1 q2
                refine ⟨p', a', p0', a0', a1', x', ?_⟩
                rw [v58 p' a' a0' a1', if_neg (by unfold mt_bl at x' z; omega)]; exact e'
          · show ∃ p a, 0 ≤ p ∧ p < q ∧ 0 ≤ a ∧ a < σ 55 1 ∧ mt_bl p a frm (i + 1) ∧ σ10 58 (6 * p + a) = q
            rcases Int.lt_or_le q (σ 55 2) with z | z
            · obtain ⟨p', a', p0', p1', a0', a1', x', e'⟩ := y6 q q1 z
              refine ⟨p', a', p0', p1', a0', a1', by unfold mt_bl at *; omega, ?_⟩
              rw [v58 p' a' a0' a1', if_neg (by unfold mt_bl at x'; omega)]; exact e'
            · refine ⟨frm, i, f0, by omega, i0, by omega, by unfold mt_bl; omega, ?_⟩
              rw [v58 frm i i0 (by omega), if_pos ⟨rfl, rfl⟩]; omega
          · rw [v59 p a a0 a1]
            rcases old p a a1 z with z | ⟨z, zn⟩
            · rw [if_pos z, z.1, z.2, t1 frm f0 (by omega), ← uu20, mb_l2i (by omega) (by omega)]; omega
            · rw [if_neg zn, t1 p p0 (by unfold mt_bl at z; omega)]
              exact y7 p a p0 a0 a1 z
        refine ih (i + 1) σ10 S8 (by omega) (by omega) (by omega) fs10 ⟨by rw [e0, b0], by rw [e1]; exact b1, by rw [e1]; exact b2, by rw [e1, e56]; exact b3, ?_, ?_, ?_, ?_, ?_, ?_, ?_⟩ YY ?_ (by rw [e1, hL]) (by rw [e56, hl])
        · rw [k10 55 (by omega) (by omega)]; omega
        · rw [k10 55 (by omega) (by omega)]; omega
        · rw [k10 55 (by omega) (by omega), k10 57 (by omega) (by omega)]; exact g6
        · rw [k10 55 (by omega) (by omega), k10 57 (by omega) (by omega)]; exact g7
        · intro q a q0 a0 a1 hq
          rw [e1] at a1
          rw [k10 55 (by omega) (by omega)]
          rw [v58 q a a0 a1, v59 q a a0 a1]
          by_cases z : q = frm ∧ a = i
          · rw [if_pos z, if_pos z]
            exact ⟨gx, (g6 x x0 x1).2.1, m3.1, m3.2⟩
          · rw [if_neg z, if_neg z]
            have := b8 q a q0 a0 a1 (by omega)
            omega
        · rw [k10 55 (by omega) (by omega), k10 61 (by omega) (by omega)]; exact g9
        · rw [k10 64 (by omega) (by omega), f8 64 (by omega) (by omega) (by omega), k7 64 (by omega) (by omega) (by omega) (by omega)]; exact b10
        · rw [k10 55 (by omega) (by omega)]; omega
      have g6 := b6 x x0 x1
      rw [e57]
      refine fun _ => ⟨fun c2 => ?_, fun c2 => ?_⟩
      · refine NT σ7 (fun _ _ _ _ => rfl) (fun b _ => by rw [ep]) (by rw [ep]; omega) (by rw [ep]; exact b5) (by rw [ep, e57]; exact b6) (by rw [ep, e57]; exact b7) (by rw [ep, k7 61 (by omega) (by omega) (by omega) (by omega)]; exact b9) (by rw [e57]; omega) ⟨S, fun _ _ _ => rfl, ?_, Or.inl (by rw [ep]), by rw [ep]; exact y3, by rw [ep]; exact y4, by rw [ep, k7 61 (by omega) (by omega) (by omega) (by omega)]; exact y8, by rw [ep, e57]; exact y9, by rw [e57]; exact y10⟩
        rw [e57]
        have nn := y10 x x0 x1 c2
        exact mt_num_inj h2 h5 (y3 _ (by omega) (by omega)) uM (by omega)
      · rw [ep]
        -- there is room: each place but the first has a number of its own
        have room : σ 55 2 ≤ 945 := by
          rcases Int.lt_or_le 945 (σ 55 2) with z | z
          · exfalso
            have sk : ∀ q : Nat, ∃ y : Int, q < 945 → (0 ≤ y ∧ y < 945 ∧ σ 57 y = q + 1) := fun q => by
              by_cases hq : q < 945
              · obtain ⟨y, y0, y1, y2⟩ := b7 (q + 1) (by omega) (by omega)
                exact ⟨y, fun _ => ⟨y0, y1, y2⟩⟩
              · exact ⟨0, fun c => absurd c hq⟩
            obtain ⟨g, hg⟩ := Classical.axiomOfChoice sk
            obtain ⟨i, j, hij, hj, e⟩ := mt_ph 945 (fun q => if q < 945 then g q else x) (fun q hq => by
              show 0 ≤ (if q < 945 then g q else x) ∧ (if q < 945 then g q else x) < ((945 : Nat) : Int)
              split
              · rename_i q1; have := hg q q1; omega
              · omega)
            have e : (if i < 945 then g i else x) = (if j < 945 then g j else x) := e
            rw [if_pos (by omega)] at e
            have hi := hg i (by omega)
            by_cases z2 : j < 945
            · rw [if_pos z2] at e
              have hj2 := hg j z2
              rw [e] at hi
              omega
            · rw [if_neg z2] at e
              rw [e, c2] at hi
              omega
          · exact z
        refine fun _ => ⟨x0, x1, fun σ12 s12 => ?_⟩
        have k12 : ∀ j, j ≠ 57 → σ12 j = σ7 j := fun j hj => by rw [s12, ml_up_k hj]
        refine s_keep (p := σ 55 2) (by rw [k12 55 (by omega), ep]) (by omega) room (fun σ13 f13 fb13 e13 lo13 hi13 => ?_) (by omega)
        have e57' : σ13 57 = ml_up σ7 57 x (σ 55 2) 57 := by rw [f13 57 (by omega) (by omega), s12]
        have S1 : ∀ q, q ≠ σ 55 2 → (fun q => if q = σ 55 2 then u else S q) q = S q := fun q hq => if_neg hq
        have S2 : (fun q => if q = σ 55 2 then u else S q) (σ 55 2) = u := if_pos rfl
        have nw : ∀ q, 1 ≤ q → q < σ 55 2 → ¬ mt_eq h (S q) u := fun q q0 q1 e => by
          have a := y9 q q0 q1
          have b := mt_num_e h2 h5 (y3 q (by omega) q1) e
          rw [b, hx, c2] at a; omega
        generalize hS : (fun q => if q = σ 55 2 then u else S q) = S8 at *
        refine NT σ13 (fun j h1 h3 h4 => by rw [f13 j h1 h4, k12 j h3]) (fun b hb => by rw [fb13 b hb, k12 55 (by omega), ep]) (by omega) (by omega) (fun y y0 y1 => ?_) (fun q q0 q1 => ?_) (fun q q0 q1 => ?_) ?_ ⟨S8, fun q q0 q1 => S1 q (by omega), ?_, Or.inr ⟨e13, ?_⟩, fun p p0 p1 => ?_, fun p q p0 pq q1 => ?_, fun p e p0 p1 e0 e1 => ?_, fun q q0 q1 => ?_, fun y y0 y1 => ?_⟩
        · rw [e57', e13]
          by_cases z : y = x
          · rw [z, ml_up_same]; omega
          · rw [ml_up_i z, e57]; have := b6 y y0 y1; omega
        · rw [e57']
          rw [e13] at q1
          by_cases z : q = σ 55 2
          · exact ⟨x, x0, x1, by rw [ml_up_same, z]⟩
          · obtain ⟨y, y0, y1, y2⟩ := b7 q q0 (by omega)
            refine ⟨y, y0, y1, ?_⟩
            have : y ≠ x := fun c => by rw [c, c2] at y2; omega
            rw [ml_up_i this, e57]; exact y2
        · rw [e13] at q1
          by_cases z : q = σ 55 2
          · refine ⟨u, uM, fun e e0 e1 => ?_⟩
            rw [z, hi13 e e0 (by omega), k12 (67 + 1) (by omega)]
            exact (w7.1 e e0 e1).1
          · obtain ⟨v, v1, v2⟩ := b9 q q0 (by omega)
            refine ⟨v, v1, fun e e0 e1 => ?_⟩
            rw [lo13 _ (by omega), k12 61 (by omega), k7 61 (by omega) (by omega) (by omega) (by omega)]
            exact v2 e e0 e1
        · rw [e57', ml_up_same]; omega
        · rw [e57', ml_up_same, S2]; exact fun _ _ _ => rfl
        · rw [e57', ml_up_same]
        · by_cases z : p = σ 55 2
          · rw [z, S2]; exact uM
          · rw [S1 p z]; exact y3 p p0 (by omega)
        · by_cases z : q = σ 55 2
          · rw [z, S2, S1 p (by omega)]; exact nw p p0 (by omega)
          · rw [S1 p (by omega), S1 q z]; exact y4 p q p0 pq (by omega)
        · by_cases z : p = σ 55 2
          · rw [z, S2, hi13 e e0 (by omega), k12 (67 + 1) (by omega)]
            exact (w7.1 e e0 e1).1
          · rw [S1 p z, lo13 _ (by omega), k12 61 (by omega), k7 61 (by omega) (by omega) (by omega) (by omega)]
            exact y8 p e p0 (by omega) e0 e1
        · rw [e57']
          by_cases z : q = σ 55 2
          · rw [z, S2, hx, ml_up_same]
          · have a := y9 q q0 (by omega)
            have ne : (mt_num h (S q) : Int) ≠ x := fun e => by rw [e, c2] at a; omega
            rw [S1 q z, ml_up_i ne, e57]; exact a
        · rw [e57']
          by_cases z : y = x
          · rw [z, ml_up_same, S2]; exact fun _ => hx
          · rw [ml_up_i z, e57]
            intro n1
            have := b6 y y0 y1
            rw [S1 _ (by omega)]
            exact y10 y y0 y1 n1
  unfold f_X7_leadOn f_X7_leadOn_u0
  exact ⟨10, L 10 0 σ0 S0 (by omega) (by omega) (by omega) (fun _ _ => rfl) b Y (Int.le_refl _) rfl rfl⟩
/-- counting the bits of a set of words -/
def mb_swf (n : Nat) (k : Nat → Bool) : Bool := mb_fc n fun n => mb_fc (mb_b2 n) fun y2 => mb_fc (mb_b4 y2) fun y4 => mb_fc (mb_b6 y4) fun y6 => mb_fc (mb_b8 y6) fun y8 => mb_fc (mb_b10 y8 &&& 63) k
theorem mb_swf_e (n : Nat) (k : Nat → Bool) : mb_swf n k = k (mb_sw n) := by
  unfold mb_swf mb_sw
  rw [mb_fc_e, mb_fc_e, mb_fc_e, mb_fc_e, mb_fc_e, mb_fc_e]
def mb_ck2 (a : Nat) : Bool := mb_swf a fun s => mb_fc (256 * a) fun a8 => mb_all (fun b => mb_swf (a8 + b) fun r => mb_swf b fun q => Nat.beq r (s + q)) 256
theorem mb_sw_2 : mb_all mb_ck2 256 = true := by decide +kernel
theorem mb_pc_s : ∀ (k n : Nat), mb_pc (k + 1) n = mb_pc k n + n / 2 ^ k % 2 := by
  intro k
  induction k with
  | zero => intro n; unfold mb_pc; simp; rfl
  | succ k ih =>
    intro n
    have e : n / 2 / 2 ^ k = n / 2 ^ (k + 1) := by rw [Nat.div_div_eq_div_mul, Nat.pow_succ, Nat.mul_comm]
    rw [show mb_pc (k + 1 + 1) n = n % 2 + mb_pc (k + 1) (n / 2) from rfl, ih (n / 2), show mb_pc (k + 1) n = n % 2 + mb_pc k (n / 2) from rfl, e]
    omega
theorem mt_bc_pc {n : Nat} (hn : n < 2147483648) : ∀ k : Nat, k ≤ 31 → mt_bc (n : Int) k = (mb_pc k n : Nat) := by
  intro k
  induction k with
  | zero => intro _; rfl
  | succ k ih =>
    intro hk
    unfold mt_bc
    rw [ih (by omega), mb_t_n hn (by omega), mb_pc_s, Nat.testBit_eq_decide_div_mod_eq]
    by_cases q : n / 2 ^ k % 2 = 1
    · rw [q]; rfl
    · rw [show n / 2 ^ k % 2 = 0 by omega]; rfl
theorem mt_bc_s (set : Int) (n : Nat) : mt_bc set (n + 1) = mt_bc set n + mb_t set n := rfl
theorem mt_bc_c {s t : Int} : ∀ k : Nat, (∀ v : Nat, v < k → mb_t s v = mb_t t v) → mt_bc s k = mt_bc t k := by
  intro k
  induction k with
  | zero => intro _; rfl
  | succ k ih => intro h; rw [mt_bc_s, mt_bc_s, ih (fun v hv => h v (by omega)), h k (by omega)]
theorem mb_pc_a (k n : Nat) : ∀ j : Nat, mb_pc (k + j) n = mb_pc k n + mb_pc j (n / 2 ^ k) := by
  intro j
  induction j with
  | zero => rfl
  | succ j ih => rw [← Nat.add_assoc, mb_pc_s, mb_pc_s, ih, Nat.div_div_eq_div_mul, ← Nat.pow_add, Nat.add_assoc]
theorem mt_bc_m {set : Int} {a : Nat} : ∀ k : Nat, 0 ≤ mt_bc set a ∧ mt_bc set a ≤ mt_bc set (a + k) := by
  have z : ∀ a : Nat, 0 ≤ mt_bc set a := by
    intro a
    induction a with
    | zero => exact Int.le_refl 0
    | succ a ih => rw [mt_bc_s]; rcases mb_t_01 set a with q | q <;> omega
  intro k
  refine ⟨z a, ?_⟩
  induction k with
  | zero => exact Int.le_refl _
  | succ k ih =>
    rw [← Nat.add_assoc, mt_bc_s]; rcases mb_t_01 set ((a + k : Nat) : Int) with q | q <;> omega
theorem mt_bc_n {set : Int} {a : Nat} : ∀ k : Nat, (∀ v : Nat, a ≤ v → v < a + k → mb_t set v = 0) → mt_bc set (a + k) = mt_bc set a := by
  intro k
  induction k with
  | zero => intro _; rfl
  | succ k ih =>
    intro h
    rw [← Nat.add_assoc, mt_bc_s]
    rw [h (a + k) (by omega) (by omega), ih (fun v v0 v1 => h v v0 (by omega))]
    omega
/-- by counting all bits -/
theorem mt_bc_sw {set : Int} (s0 : 0 ≤ set) (s1 : set < 65536) : (mb_sw set.toNat : Int) = mt_bc set 16 := by
  obtain ⟨n, rfl⟩ := Int.eq_ofNat_of_zero_le s0
  rw [Int.toNat_natCast]
  have g := mb_all_e 256 mb_sw_2 (n / 256) (by omega)
  unfold mb_ck2 at g
  rw [mb_swf_e, mb_fc_e] at g
  have g := mb_all_e 256 g (n % 256) (by omega)
  rw [mb_swf_e, mb_swf_e, show 256 * (n / 256) + n % 256 = n by omega] at g
  have g := Nat.eq_of_beq_eq_true g
  have p0 : mb_pc 8 0 = 0 := by decide
  have a1 : mb_pc 16 (n / 256) = _ := mb_pc_a 8 (n / 256) 8
  have a2 : mb_pc 16 (n % 256) = _ := mb_pc_a 8 (n % 256) 8
  have a3 : mb_pc 16 n = _ := mb_pc_a 8 n 8
  rw [show (2 : Nat) ^ 8 = 256 from rfl, show n / 256 / 256 = 0 by omega, p0] at a1
  rw [show (2 : Nat) ^ 8 = 256 from rfl, show n % 256 / 256 = 0 by omega, p0] at a2
  rw [show (2 : Nat) ^ 8 = 256 from rfl] at a3
  have c : mt_bc (n : Int) 8 = mt_bc ((n % 256 : Nat) : Int) 8 := mt_bc_c 8 (fun v hv => by
    rw [mb_t_n (by omega) (by omega), mb_t_n (by omega) (by omega), show (256 : Nat) = 2 ^ 8 from rfl, Nat.testBit_mod_two_pow, decide_eq_true hv, Bool.true_and])
  rw [mt_bc_pc (by omega) 8 (by omega), mt_bc_pc (by omega) 8 (by omega)] at c
  rw [g, mb_sw_pc (by omega), mb_sw_pc (by omega), mt_bc_pc (by omega) 16 (by omega)]
  omega
theorem s_startRow {Q : ml_St → Prop} {σ0 : ml_St} (k : ∀ σ, (∀ j, j ≠ 55 → j ≠ 62 → σ j = σ0 j) → (∀ b, b ≠ 11 → σ 55 b = σ0 55 b) → σ 55 11 = 0 → (∀ i, 0 ≤ i → i < 2838 → σ 62 i = if i = 0 then 1 else 0) → Q σ) : f_X7_startRow σ0 Q := by
  unfold f_X7_startRow f_X7_startRow_u0
  refine s_fill64 (by omega) (fun σ1 f1 x1 => ⟨by omega, by omega, fun σ2 s2 σ3 s3 => ?_⟩)
  have e2 : ∀ j, j ≠ 62 → σ2 j = σ0 j := fun j hj => by rw [s2, ml_up_k hj, f1 j hj]
  refine k σ3 (fun j h1 h2 => by rw [s3, ml_up_k h1, e2 j h2]) (fun b hb => by rw [s3, ml_up_i hb, e2 55 (by omega)]) (by rw [s3, ml_up_same]) (fun i i0 i1 => ?_)
  rw [s3, ml_up_k (by omega), s2]
  by_cases z : i = 0
  · rw [z, ml_up_same]; rfl
  · rw [ml_up_i z, if_neg z]; exact x1 i i0 (by omega)
theorem mt_bit_told {set told w : Int} (t0 : 0 ≤ told) (t16 : told ≤ 16) (s0 : 0 ≤ set) (s1 : set < ((2 ^ told.toNat : Nat) : Int)) (w0 : 0 ≤ w) (w1 : w < 32) (hb : mb_t set w ≠ 0) : w < told := by
  rcases Int.lt_or_le w told with c | c
  · exact c
  · exfalso
    obtain ⟨n, rfl⟩ := Int.eq_ofNat_of_zero_le s0
    obtain ⟨v, rfl⟩ := Int.eq_ofNat_of_zero_le w0
    have p : (2 : Nat) ^ told.toNat ≤ 2 ^ v := Nat.pow_le_pow_right (by omega) (by omega)
    have p16 : (2 : Nat) ^ told.toNat ≤ 2 ^ 16 := Nat.pow_le_pow_right (by omega) (by omega)
    rw [mb_t_n (by omega) (by omega), Nat.testBit_lt_two_pow (by omega)] at hb
    exact hb rfl
theorem mt_bit_some {set : Int} (s0 : 1 ≤ set) (s1 : set < 65536) : ∃ w : Nat, w < 16 ∧ mb_t set w = 1 := by
  obtain ⟨n, rfl⟩ := Int.eq_ofNat_of_zero_le (show 0 ≤ set by omega)
  rcases Classical.em (∃ w : Nat, w < 16 ∧ mb_t (n : Int) w = 1) with c | c
  · exact c
  · exfalso
    have : n = 0 := by
      apply Nat.eq_of_testBit_eq
      intro j
      rw [Nat.zero_testBit]
      by_cases q : j < 16
      · rcases hq : n.testBit j with _ | _
        · rfl
        · exact absurd ⟨j, q, by rw [mb_t_n (by omega) (by omega), hq]; rfl⟩ c
      · exact Nat.testBit_lt_two_pow (Nat.lt_of_lt_of_le (show n < 2 ^ 16 by omega) (Nat.pow_le_pow_right (by omega) (by omega)))
    omega
theorem ic_9G {h told set frm : Int} {mk : Int → Int → Int} {σ : ml_St} (b : ic_B9 h told mk set frm 0 σ) (hf : σ 55 2 ≤ frm) (r0 : 0 ≤ σ 55 11) (r1 : σ 55 11 ≤ 1000) : ic_G h told σ := by
  obtain ⟨b0, b1, b2, b3, b4, b5, b6, b7, b8, b9, b10⟩ := b
  exact ⟨b1, b2, fun i i0 i1 => ⟨(b3 i i0 i1).1, (b3 i i0 i1).2.1⟩, b4, b5, b6, fun p i p0 p1 i0 i1 => b8 p i p0 i0 i1 (by omega), b9, r0, r1⟩
/-- what the words that are made stand for: both sides of it -/
theorem IC_cv {h told ts cap : Int} {tb cl pr sz : Int → Int} {T : Int → Int → Int} {σ : ml_St} (i : IC h told ts cap tb cl pr sz T σ) {w : Int} (w0 : 0 ≤ w) (w1 : w < told) : mt_cv h (mt_mk h T sz w) (mt_cn mt_one T sz w) := by
  obtain ⟨a, b, c, d, e, r, s⟩ := i
  have t16 := a.2.2.2.2.2
  have := mt_cv_mk (T := T) (sz := sz) a.2.2.1 a.2.2.2.1 w.toNat (by omega) (fun v hv => (e v (by omega) (by omega)).1.1)
  rw [show ((w.toNat : Nat) : Int) = w by omega] at this
  exact this
theorem IC_fs {h told ts cap : Int} {tb cl pr sz : Int → Int} {T : Int → Int → Int} {σ σ' : ml_St} (f : mt_fs σ σ') (hS : ic_S h told (mt_mk h T sz) σ') (i : IC h told ts cap tb cl pr sz T σ) : IC h told ts cap tb cl pr sz T σ' := by
  obtain ⟨a, b, c, d, e, r, s⟩ := i
  have t16 : told ≤ 16 := a.2.2.2.2.2
  exact ⟨ic_A_k (f 1 (by omega)) a, ic_B_k (f 2 (by omega)) (f 3 (by omega)) b, ic_C_k (f 4 (by omega)) (f 5 (by omega)) c, ic_D_k (fun w w0 w1 => by rw [f _ (by omega)]) d, fun w w0 w1 => ⟨ic_T_k (by rw [f _ (by omega)]) (by rw [f _ (by omega)]) (f _ (by omega)) (e w w0 w1).1, mt_wv_eq (f _ (by omega)) (f _ (by omega)) (f _ (by omega)) (e w w0 w1).2⟩, ic_R_k (fun w w0 w1 => ⟨by rw [f _ (by omega)], by rw [f _ (by omega)], f _ (by omega)⟩) r, hS⟩
theorem s_open {Q : ml_St → Prop} {h told ts cap set : Int} {tb cl pr sz : Int → Int} {T : Int → Int → Int} {σ0 : ml_St} (i : IC h told ts cap tb cl pr sz T σ0) (s1 : 1 ≤ set) (st : set < ((2 ^ told.toNat : Nat) : Int)) (md : ∀ w, 0 ≤ w → w < told → mb_t set w ≠ 0 → mt_md told (mt_mk h T sz) w) (b6 : mt_bc set told.toNat ≤ 6) (k : ∀ σ, IC h told ts cap tb cl pr sz T σ → ic_G h told σ → ic_X h told (mt_mk h T sz) σ → σ 55 0 = set → mt_fs σ0 σ → Q σ) : f_X7_open σ0 set (σ0 1 11) Q := by
  obtain ⟨a1, a2, h2, h5, t0, t16⟩ := i.1
  have p16 : (2 : Nat) ^ told.toNat ≤ 2 ^ 16 := Nat.pow_le_pow_right (by omega) (by omega)
  have told1 : 1 ≤ told := by
    obtain ⟨w, w1, w2⟩ := mt_bit_some s1 (by omega)
    have := mt_bit_told t0 t16 (by omega) st (show 0 ≤ (w : Int) by omega) (by omega) (by omega)
    omega
  rw [a1]
  unfold f_X7_open f_X7_open_u0
  refine fun _ => ⟨fun c σ3 s3 σ4 s4 => ⟨20, ?_⟩, fun c => ?_⟩
  · -- afresh
    have f4 : ∀ j, j ≠ 55 → σ4 j = σ0 j := fun j hj => by rw [s4, ml_up_k hj, s3, ml_up_k hj]
    have U74 : ∀ σ : ml_St, mt_fs σ0 σ → σ 55 0 = set → 1 ≤ σ 55 1 → σ 55 1 ≤ 6 → (∀ a, 0 ≤ a → a < σ 55 1 → mt_md told (mt_mk h T sz) (σ 56 a)) → ic_L set told (σ 55 1) (σ 56) → f_X7_open_u74 Q σ h := by
      intro σ f e0 l0 l1 hl hL
      unfold f_X7_open_u74
      refine s_fill32 (by omega) (fun σ1 f1 x1 σ2 g2 => s_beStraight h2 h5 (fun σ3 f3 w3 => ?_))
      have e2 : ∀ j, j ≠ 55 → j ≠ 57 → σ2 j = σ j := fun j h1 h3 => by rw [g2, ml_up_k h1, f1 j h3]
      have e55 : ∀ b, b ≠ 2 → σ2 55 b = σ 55 b := fun b hb => by rw [g2, ml_up_i hb, f1 55 (by omega)]
      refine s_keep (p := 0) (by rw [f3 55 (by omega) (by omega) (by omega), g2, ml_up_same]) (by omega) (by omega) (fun σ4 f4 fb4 p4 lo4 hi4 => ⟨950, ?_⟩) (by omega)
      have fs4 : mt_fs σ0 σ4 := fun j hj => by rw [f4 j (by omega) (by omega), f3 j (by omega) (by omega) (by omega), e2 j (by omega) (by omega), f j hj]
      have v0 : σ4 55 0 = set := by rw [fb4 0 (by omega), f3 55 (by omega) (by omega) (by omega), e55 0 (by omega), e0]
      have v1 : σ4 55 1 = σ 55 1 := by rw [fb4 1 (by omega), f3 55 (by omega) (by omega) (by omega), e55 1 (by omega)]
      have v2 : σ4 55 2 = 1 := by rw [p4]; rfl
      have v56 : σ4 56 = σ 56 := by rw [f4 56 (by omega) (by omega), f3 56 (by omega) (by omega) (by omega), e2 56 (by omega) (by omega)]
      have v57 : ∀ x, 0 ≤ x → x < 945 → σ4 57 x = -1 := fun x x0 x945 => by rw [f4 57 (by omega) (by omega), f3 57 (by omega) (by omega) (by omega), g2, ml_up_k (by omega)]; exact x1 x x0 (by omega)
      have b9 : ic_B9 h told (mt_mk h T sz) set 0 0 σ4 := by
        refine ⟨v0, by rw [v1]; exact l0, by rw [v1]; exact l1, by rw [v1, v56]; exact hl, by omega, by omega, fun x x0 x945 => by rw [v57 x x0 x945, v2]; omega, fun q q0 q1 => by omega, fun q a q0 a0 a1 hq => by omega, fun q q0 q1 => ?_, ?_⟩
        · have : q = 0 := by omega
          subst this
          refine ⟨mt_str h, mt_str_M h5, fun e e0 e1 => ?_⟩
          have := hi4 e e0 (by omega)
          rw [show 10 * (0 : Int) + e = 10 * 0 + e by omega]
          rw [this]
          exact (w3.1 e e0 e1).1
        · rw [f4 64 (by omega) (by omega), w3.2.1]
          unfold mt_str; rw [if_neg (by omega)]
      have b9Y : ic_Y h (mt_mk h T sz) 0 0 (fun _ => mt_str h) σ4 := by
        unfold ic_Y
        rw [v2]
        refine ⟨⟨by omega, fun _ _ _ => rfl, fun p _ _ => mt_str_M h5, fun p q p0 pq q1 => by omega, fun p a p0 a0 a1 z => by unfold mt_bl at z; omega, fun q q1 q2 => by omega⟩, fun p a p0 a0 a1 z => by unfold mt_bl at z; omega, fun p e p0 p1 e0 e1 => ?_, fun q q0 q1 => by omega, fun x x0 x1 n1 => absurd (v57 x x0 x1) n1⟩
        have := hi4 e e0 (by omega)
        rw [show p = 0 by omega, this]
        exact (w3.1 e e0 e1).1
      have KE : ∀ σ1 frm S, mt_fs σ0 σ1 → ic_B9 h told (mt_mk h T sz) set frm 0 σ1 → ic_Y h (mt_mk h T sz) frm 0 S σ1 → σ1 55 2 = frm → σ1 55 1 = σ 55 1 → σ1 56 = σ 56 → f_X7_open_u137 Q σ1 := by
        intro σ frm S f b Y hf eL el
        unfold f_X7_open_u137
        refine s_startRow (fun σ1 f1 fb1 z1 r1 => ?_)
        have b1 : ic_B9 h told (mt_mk h T sz) set frm 0 σ1 := by
          unfold ic_B9
          rw [fb1 0 (by omega), fb1 1 (by omega), fb1 2 (by omega), f1 56 (by omega) (by omega), f1 57 (by omega) (by omega), f1 58 (by omega) (by omega), f1 59 (by omega) (by omega), f1 61 (by omega) (by omega), f1 64 (by omega) (by omega)]
          exact b
        have fs1 : mt_fs σ0 σ1 := fun j hj => by rw [f1 j (by omega) (by omega), f j hj]
        have G := ic_9G b1 (by rw [fb1 2 (by omega)]; omega) (by omega) (by omega)
        have X : ic_X h told (mt_mk h T sz) σ1 := by
          refine ⟨?_, ⟨S, ?_⟩, fun p l p0 p1 l0 l1 => ?_⟩
          · rw [fb1 0 (by omega), fb1 1 (by omega), f1 56 (by omega) (by omega), b.1, eL, el]; exact hL
          · unfold ic_Y at *
            rw [fb1 1 (by omega), fb1 2 (by omega), f1 56 (by omega) (by omega), f1 57 (by omega) (by omega), f1 58 (by omega) (by omega), f1 59 (by omega) (by omega), f1 61 (by omega) (by omega), hf]
            rw [hf] at Y; exact Y
          · have p9 : σ1 55 2 ≤ 946 := b1.2.2.2.2.2.1
            rw [z1, r1 _ (by omega) (by omega)]
            show _ = if p = 0 ∧ l = 0 then (1 : Int) else 0
            by_cases z : p = 0 ∧ l = 0
            · rw [if_pos z, if_pos (by omega)]
            · rw [if_neg z, if_neg (by omega)]
        exact k σ1 (IC_fs fs1 (Or.inr ⟨told1, G, X⟩) i) G X b1.1 fs1
      have L : ∀ (N : Nat) (frm : Int) (σ1 : ml_St) (S : Int → Int → Int), 0 ≤ frm → frm ≤ 946 → 946 - frm < N → mt_fs σ0 σ1 → ic_B9 h told (mt_mk h T sz) set frm 0 σ1 → ic_Y h (mt_mk h T sz) frm 0 S σ1 → σ1 55 1 = σ 55 1 → σ1 56 = σ 56 → frm ≤ σ1 55 2 → f_X7_open_u106 Q (f_X7_open_u137 Q) N σ1 h frm := by
        intro N
        induction N with
        | zero => intro frm σ1 S f0 f1 hN; omega
        | succ N ih =>
          intro frm σ S f0 f1 hN f b Y eL el hf
          unfold f_X7_open_u106
          refine fun _ => ⟨fun c2 => KE σ frm S f b Y (by omega) eL el, fun c2 => ⟨fun c3 => KE σ frm S f b Y (by have := b.2.2.2.2.2.1; omega) eL el, fun c3 => ?_⟩⟩
          refine s_leadOn (told := told) (set := set) (mk := mt_mk h T sz) (C := mt_cn mt_one T sz) h2 h5 t16 f0 (by omega) b Y (fun w hw => ?_) (fun σ4 S4 f4 b4 Y4 hp4 eL4 el4 => ⟨mt_I (by omega) (by omega), fun y e => ?_⟩)
          · have w0 := hw.1
            have w1 := hw.2.1
            refine ⟨?_, IC_cv i hw.1 hw.2.1⟩
            exact mt_wv_eq (f _ (by omega)) (f _ (by omega)) (f _ (by omega)) (IC_w i hw.1 hw.2.1).2.1
          · subst e
            exact ih (frm + 1) σ4 S4 (by omega) (by omega) (by omega) (mt_fs_t f f4) b4 Y4 (by rw [eL4, eL]) (by rw [el4, el]) (by omega)
      exact L 950 0 σ4 _ (by omega) (by omega) (by omega) fs4 b9 b9Y v1 v56 (by omega)
    -- the letters
    have mono : ∀ w : Nat, (w : Int) ≤ told → mt_bc set w ≤ mt_bc set told.toNat := fun w hw => by
      have := (mt_bc_m (set := set) (a := w) (told.toNat - w)).2
      rw [show w + (told.toNat - w) = told.toNat by omega] at this
      exact this
    have c16 : mt_bc set 16 = mt_bc set told.toNat := by
      have := mt_bc_n (set := set) (a := told.toNat) (16 - told.toNat) (fun v v0 v1 => by
        rcases mb_t_01 set v with q | q
        · exact q
        · have := mt_bit_told t0 t16 (by omega) st (show 0 ≤ (v : Int) by omega) (by omega) (by omega)
          omega)
      rw [show told.toNat + (16 - told.toNat) = 16 by omega] at this
      exact this
    have L0 : ∀ (N : Nat) (w : Nat) (σ : ml_St), w ≤ 16 → 16 - w < N → mt_fs σ0 σ → σ 55 0 = set → σ 55 1 = mt_bc set w → (∀ a, 0 ≤ a → a < σ 55 1 → mt_md told (mt_mk h T sz) (σ 56 a)) → (∀ v : Nat, v < w → mb_t set v = 1 → σ 56 (mt_bc set v) = v) → f_X7_open_u22 Q (f_X7_open_u74 Q) N σ set h w := by
      intro N
      induction N with
      | zero => intro w σ w1 hN; omega
      | succ N ih =>
        intro w σ w1 hN f e0 l0 hl hz
        unfold f_X7_open_u22
        have nx : ∀ σ, w < 16 → mt_fs σ0 σ → σ 55 0 = set → σ 55 1 = mt_bc set (w + 1) → (∀ a, 0 ≤ a → a < σ 55 1 → mt_md told (mt_mk h T sz) (σ 56 a)) → (∀ v : Nat, v < w + 1 → mb_t set v = 1 → σ 56 (mt_bc set v) = v) → f_X7_open_u68 Q (f_X7_open_u22 Q (f_X7_open_u74 Q) N) σ set h w := by
          intro σ hw f e0 l0 hl hz
          unfold f_X7_open_u68
          refine ⟨mt_I (by omega) (by omega), fun y e => ?_⟩
          have e : y = ((w + 1 : Nat) : Int) := by omega
          subst e
          exact ih (w + 1) σ (by omega) (by omega) f e0 l0 hl hz
        have bs : mt_bc set (w + 1) = mt_bc set w + mb_t set w := rfl
        have b0 := (mt_bc_m (set := set) (a := w) 0).1
        refine ⟨fun c2 => ?_, fun c2 => ⟨fun c3 => nx σ (by omega) f e0 (by rw [bs, l0]; have c3 : mb_t set w = 0 := c3; omega) hl (fun v hv => ?_), fun c3 _ => ?_⟩⟩
        · have w16 : w = 16 := by omega
          rw [w16, c16] at l0
          refine U74 σ f e0 ?_ (by omega) hl ⟨l0, fun v v0 v1 => hz v (by omega) v1⟩
          rcases Int.lt_or_le 0 (σ 55 1) with z | z
          · omega
          · exfalso
            obtain ⟨v, v1, v2⟩ := mt_bit_some s1 (by omega)
            have m1 := (mt_bc_m (set := set) (a := v + 1) (16 - (v + 1))).2
            rw [show v + 1 + (16 - (v + 1)) = 16 by omega, c16] at m1
            have m2 := (mt_bc_m (set := set) (a := v) 0).1
            have m3 : mt_bc set (v + 1) = mt_bc set v + mb_t set v := rfl
            omega
        · by_cases q : v = w
          · subst q; exact fun o => absurd o (by have c3 : mb_t set v = 0 := c3; omega)
          · exact hz v (by omega)
        · have wt : (w : Int) < told := mt_bit_told t0 t16 (by omega) st (by omega) (by omega) c3
          have c3' : mb_t set w = 1 := (mb_t_01 set w).resolve_left c3
          have mm := mono (w + 1) (by omega)
          refine ⟨fun c4 => by omega, fun c4 _ => ⟨by omega, by omega, fun σ6 s6 => ?_⟩⟩
          have e6 : σ6 55 = σ 55 := by rw [s6, ml_up_k (by omega)]
          rw [e6]
          refine fun _ => ⟨mt_I (by omega) (by omega), fun σ9 s9 => ?_⟩
          refine nx σ9 (by omega) (fun j hj => by rw [s9, ml_up_k (by omega), s6, ml_up_k (by omega), f j hj]) (by rw [s9, ml_up_i (by omega), e6, e0]) (by rw [s9, ml_up_same]; omega) (fun a a0 a1 => ?_) (fun v hv v1 => ?_)
          · rw [s9, ml_up_same] at a1
            rw [s9, ml_up_k (by omega), s6]
            by_cases q : a = σ 55 1
            · rw [q, ml_up_same]; exact md w (by omega) wt c3
            · rw [ml_up_i q]; exact hl a a0 (by omega)
          · rw [s9, ml_up_k (by omega), s6]
            by_cases q : v = w
            · rw [q, ← l0, ml_up_same]
            · have m1 := (mt_bc_m (set := set) (a := v + 1) (w - (v + 1))).2
              rw [show v + 1 + (w - (v + 1)) = w by omega] at m1
              have m3 : mt_bc set (v + 1) = mt_bc set v + mb_t set v := rfl
              rw [ml_up_i (by omega)]; exact hz v (by omega) v1
    refine L0 20 0 σ4 (by omega) (by omega) (fun j hj => f4 j (by omega)) (by rw [s4, ml_up_i (by omega), s3, ml_up_same]) (by rw [s4, ml_up_same]; rfl) (fun a a0 a1 => by rw [s4, ml_up_same] at a1; omega) (fun v hv => absurd hv (by omega))
  · -- the same as before
    rcases i.2.2.2.2.2.2 with z | z
    · omega
    · exact k σ0 i z.2.1 z.2.2 c.symm (fun _ _ => rfl)
/-- the letters that may be -/
def mt_ls (told : Int) (mk : Int → Int → Int) (set : Int) : Prop := 1 ≤ set ∧ set < ((2 ^ told.toNat : Nat) : Int) ∧ mt_bc set told.toNat ≤ 6 ∧ ∀ w, 0 ≤ w → w < told → mb_t set w ≠ 0 → mt_md told mk w
theorem s_openLetters {Q : Int → ml_St → Prop} {h told ts cap set : Int} {tb cl pr sz : Int → Int} {T : Int → Int → Int} {σ0 : ml_St} (i : IC h told ts cap tb cl pr sz T σ0) (k0 : ¬ mt_ls told (mt_mk h T sz) set → Q 0 σ0) (k1 : mt_ls told (mt_mk h T sz) set → ∀ σ, IC h told ts cap tb cl pr sz T σ → ic_G h told σ → ic_X h told (mt_mk h T sz) σ → σ 55 0 = set → mt_fs σ0 σ → Q 1 σ) : f_X11_openLetters σ0 set Q := by
  obtain ⟨a1, a2, h2, h5, t0, t16⟩ := i.1
  have p16 : (2 : Nat) ^ told.toNat ≤ 2 ^ 16 := Nat.pow_le_pow_right (by omega) (by omega)
  have esh : b_shl 1 told = ((2 ^ told.toNat : Nat) : Int) := by
    have := mb_shl (r := told.toNat) (by omega)
    rw [show ((told.toNat : Nat) : Int) = told by omega] at this
    exact this
  unfold f_X11_openLetters f_X11_openLetters_u0
  unfold f_X11_openLetters_u24
  rw [a2, esh]
  refine ⟨fun c => k0 (fun y => by have := y.1; omega), fun c _ => ⟨fun c2 => k0 (fun y => by have := y.2.1; omega), fun c2 => ?_⟩⟩
  rw [show set = ((set.toNat : Nat) : Int) by omega]
  refine s_bitCount (by omega) ?_
  rw [show ((set.toNat : Nat) : Int) = set by omega, mt_bc_sw (by omega) (by omega)]
  have c16 : mt_bc set 16 = mt_bc set told.toNat := by
    have := mt_bc_n (set := set) (a := told.toNat) (16 - told.toNat) (fun v v0 v1 => by
      rcases mb_t_01 set v with q | q
      · exact q
      · have := mt_bit_told t0 t16 (by omega) (show set < ((2 ^ told.toNat : Nat) : Int) by omega) (show 0 ≤ (v : Int) by omega) (by omega) (by omega)
        omega)
    rw [show told.toNat + (16 - told.toNat) = 16 by omega] at this
    exact this
  rw [c16]
  refine fun _ => ⟨fun b6 => ⟨20, ?_⟩, fun b6 => k0 (fun y => b6 y.2.2.1)⟩
  have L : ∀ (N : Nat) (w : Int), 0 ≤ w → w ≤ told → told - w < N → (∀ v, 0 ≤ v → v < w → mb_t set v ≠ 0 → mt_md told (mt_mk h T sz) v) → f_X11_openLetters_u28 Q (f_X11_openLetters_u52 Q) (f_X11_openLetters_u60 Q) N σ0 set w := by
    intro N
    induction N with
    | zero => intro w w0 w1 hN; omega
    | succ N ih =>
      intro w w0 w1 hN hm
      unfold f_X11_openLetters_u28
      rw [a2]
      have nx : w < told → (mb_t set w ≠ 0 → mt_md told (mt_mk h T sz) w) → f_X11_openLetters_u54 Q (f_X11_openLetters_u28 Q (f_X11_openLetters_u52 Q) (f_X11_openLetters_u60 Q) N) σ0 set w := by
        intro hw hm2
        unfold f_X11_openLetters_u54
        refine ⟨mt_I (by omega) (by omega), fun y e => ?_⟩
        subst e
        refine ih (w + 1) (by omega) (by omega) (by omega) (fun v v0 v1 hv => ?_)
        by_cases q : v = w
        · subst q; exact hm2 hv
        · exact hm v v0 (by omega) hv
      refine fun _ => ⟨fun c3 => ?_, fun c3 => ⟨fun c4 => nx (by omega) (fun z => absurd c4 z), fun c4 => c_isMade i (fun q _ => ⟨fun _ => nx (by omega) (fun _ => q), fun z => absurd z (by omega)⟩) (fun q _ => ⟨fun z => absurd rfl z, fun _ => ?_⟩)⟩⟩
      · unfold f_X11_openLetters_u60
        have hm' : ∀ v, 0 ≤ v → v < told → mb_t set v ≠ 0 → mt_md told (mt_mk h T sz) v := fun v v0 v1 hv => hm v v0 (by omega) hv
        exact fun _ => s_open i (by omega) (by omega) hm' b6 (k1 ⟨by omega, by omega, b6, hm'⟩)
      · unfold f_X11_openLetters_u52; exact k0 (fun y => q (y.2.2.2 w w0 (by omega) c4))
  exact L 20 0 (by omega) t0 (by omega) (fun v v0 v1 => absurd v1 (by omega))
/-! the class: walk -/
/-- where a walk from an end begins -/
def mw_0 (h len e : Int) : Int × Int × Int := (if e < h then 0 else len - 1, if e < h then e else e - h, if e < h then 1 else 0)
def mw_c (told h : Int) (T : Int → Int → Int) (sz : Int → Int) (w e x : Int) : Prop := 0 ≤ w ∧ w < told ∧ mt_cn mt_one T sz w ≤ 2000 ∧ 0 ≤ e ∧ e < 2 * h ∧ -1 ≤ x
def mw_a (h : Int) (T : Int → Int → Int) (sz : Int → Int) (w e x : Int) : Int := mw (mt_ex T sz w) (mt_cn mt_one T sz w) x h 20000 (mw_0 h (mt_cn mt_one T sz w) e) 0
theorem c_walk {Q : Int → ml_St → Prop} {h told ts cap w e x : Int} {tb cl pr sz : Int → Int} {T : Int → Int → Int} {σ0 : ml_St} (i : IC h told ts cap tb cl pr sz T σ0) (k1 : mw_c told h T sz w e x → ∀ σ, IC h told ts cap tb cl pr sz T σ → (∀ j, 215 ≤ j → σ j = σ0 j) → Q (mw_a h T sz w e x) σ) (k0 : ¬ mw_c told h T sz w e x → Q (-1) σ0) : f_X11_walk σ0 w e x Q := by
  have a := i.1
  have t16 := a.2.2.2.2.2
  unfold f_X11_walk f_X11_walk_u0
  unfold f_X11_walk_u40
  refine s_isTold a.2.1 (fun w0 w1 _ => ⟨fun z => absurd z (by omega), fun _ => ⟨w0, by omega, ?_⟩⟩) (fun n _ => ⟨fun _ => k0 (fun y => n ⟨y.1, y.2.1⟩), fun z => absurd rfl z⟩)
  have cv := IC_cv i w0 w1
  have e23 : σ0 (119 + 6 * w + 2) 5 = min mt_top (mt_cn mt_one T sz w) := by
    rw [show 119 + 6 * w + 2 = 121 + 6 * w by omega, (IC_w i w0 w1).2.1.2.2.2.2.1, cv.2.2.2.1]
  have C0 := cv.1
  rw [e23]
  unfold mt_top
  refine fun _ => ⟨fun z => k0 (fun y => by have := y.2.2.1; omega), fun few => s_isEnd a.2.2.1 a.2.2.2.1 a.1 (fun e0 e1 _ => ⟨fun z => absurd z (by omega), fun _ => ⟨fun x0 => ⟨20, ?_⟩, fun z => k0 (fun y => z y.2.2.2.2.2)⟩⟩) (fun n _ => ⟨fun _ => k0 (fun y => n ⟨y.2.2.2.1, y.2.2.2.2.1⟩), fun z => absurd rfl z⟩)⟩
  have k1 := k1 ⟨w0, w1, by omega, e0, e1, x0⟩
  have L : ∀ (N : Nat) (v : Int) (σ : ml_St), 0 ≤ v → v ≤ w + 1 → w + 1 - v < N → IC h told ts cap tb cl pr sz T σ → (∀ j, 215 ≤ j → σ j = σ0 j) → (∀ u, 0 ≤ u → u < v → σ (119 + 6 * u) 7 ≠ 0) → f_X11_walk_u45 Q (f_X11_walk_u88 Q) N σ w e x v := by
    intro N
    induction N with
    | zero => intro v σ v0 v1 hN; omega
    | succ N ih =>
      intro v σ v0 v1 hN iσ fσ fl
      unfold f_X11_walk_u45
      have nx : ∀ σ, v ≤ w → IC h told ts cap tb cl pr sz T σ → (∀ j, 215 ≤ j → σ j = σ0 j) → (∀ u, 0 ≤ u → u < v + 1 → σ (119 + 6 * u) 7 ≠ 0) → f_X11_walk_u82 Q (f_X11_walk_u45 Q (f_X11_walk_u88 Q) N) σ w e x v := by
        intro σ hv iσ fσ fl
        unfold f_X11_walk_u82
        refine ⟨mt_I (by omega) (by omega), fun y ey => ?_⟩
        subst ey
        exact ih (v + 1) σ (by omega) (by omega) (by omega) iσ fσ fl
      have good : ∀ u : Nat, (u : Int) < told → mt_good h u (T u) (sz u) := fun u hu => (IC_w iσ (by omega) hu).1.1
      refine ⟨fun c => ?_, fun c => ⟨v0, by omega, fun _ => ⟨fun z => nx σ (by omega) iσ fσ (fun u u0 u1 => by
        by_cases q : u = v
        · rw [q]; exact z
        · exact fl u u0 (by omega)), fun _ => ⟨v0, by omega, ?_⟩⟩⟩⟩
      · unfold f_X11_walk_u88
        obtain ⟨rr1, rr2⟩ := iσ.2.2.2.2.2.1 w w0 (by omega)
        obtain ⟨r1, r2⟩ := rr2 w1 (fl w w0 (by omega))
        rw [iσ.1.1]
        have mv : mw_v h (mt_ex T sz w) := by
          have := mt_ex_v (h := h) (T := T) (sz := sz) a.2.2.1 w.toNat (by omega) (fun u hu => good u (by omega))
          rw [show ((w.toNat : Nat) : Int) = w by omega] at this
          exact this
        have e6 : σ (119 + 6 * w) 6 = mt_cn mt_one T sz w := by omega
        rw [e6] at r2
        exact ⟨w0, by omega, fun _ => s_follow a.2.2.1 a.2.2.2.1 e0 e1 mv C0 (by omega) e6 (fun j j0 j1 => by rw [show 119 + 6 * w + 5 = 124 + 6 * w by omega]; exact r2 j j0 j1) (fun _ => k1 σ iσ fσ)⟩
      · obtain ⟨⟨g, s1, s2, s3⟩, -⟩ := IC_w iσ v0 (by omega)
        have iR := iσ.2.2.2.2.2.1
        have gv := good v.toNat (by omega)
        have ec := mt_cn_e (h := h) (sg := mt_one) (T := T) (sz := sz) (w := v.toNat) (by omega) gv
        have ee := mt_ex_e (h := h) (T := T) (sz := sz) (w := v.toNat) (by omega) gv
        rw [show ((v.toNat : Nat) : Int) = v by omega] at ec ee
        refine s_writeOut (cx := mt_cn mt_one T sz) (ex := mt_ex T sz) a.2.2.2.1 v0 (by omega) g s1 s2 (fun u u0 u1 => ?_) (fun σ6 f6 q1 q0 => nx σ6 (by omega) ?_ (fun j hj => by rw [f6.1 j (by omega) (by omega) (by omega) (by omega)]; exact fσ j hj) (fun u u0 u1 => ?_))
        · obtain ⟨r1, r2⟩ := (iR u u0 (by omega)).2 (by omega) (fl u u0 u1)
          refine ⟨(IC_cv iσ u0 (by omega)).1, r1, fun j j0 j1 => ?_⟩
          rw [show 119 + 6 * u + 5 = 124 + 6 * u by omega]; exact r2 j j0 j1
        · rw [← ec, ← ee] at q0
          obtain ⟨a', b', c', d', e', r', s'⟩ := iσ
          have fld : ∀ u b, 0 ≤ u → u < 16 → b ≠ 6 → b ≠ 7 → σ6 (119 + 6 * u) b = σ (119 + 6 * u) b := fun u b u0 u1 h6 h7 => by
            by_cases q : u = v
            · rw [q]; exact f6.2 b h6 h7
            · rw [f6.1 _ (by omega) (by omega) (by omega) (by omega)]
          have f6' := f6.1
          refine ⟨ic_A_k (f6' 1 (by omega) (by omega) (by omega) (by omega)) a', ic_B_k (f6' 2 (by omega) (by omega) (by omega) (by omega)) (f6' 3 (by omega) (by omega) (by omega) (by omega)) b', ic_C_k (f6' 4 (by omega) (by omega) (by omega) (by omega)) (f6' 5 (by omega) (by omega) (by omega) (by omega)) c', ic_D_k (fun u u0 u1 => fld u 3 u0 u1 (by omega) (by omega)) d', fun u u0 u1 => ⟨ic_T_k (fld u 1 u0 (by omega) (by omega) (by omega)) (fld u 2 u0 (by omega) (by omega) (by omega)) (f6' _ (by omega) (by omega) (by omega) (by omega)) (e' u u0 u1).1, mt_wv_eq (f6' _ (by omega) (by omega) (by omega) (by omega)) (f6' _ (by omega) (by omega) (by omega) (by omega)) (f6' _ (by omega) (by omega) (by omega) (by omega)) (e' u u0 u1).2⟩, fun u u0 u1 => ?_, ic_S_k (fun j h1 h2 => f6' j (by omega) (by omega) (by omega) (by omega)) s'⟩
          by_cases q : u = v
          · rw [q]
            have C := (IC_cv i v0 (by omega)).1
            refine ⟨by rw [q0.1]; omega, fun _ _ => ⟨q0.1, fun j j0 j1 => ?_⟩⟩
            rw [show 124 + 6 * v = 119 + 6 * v + 5 by omega]; exact q0.2 j j0 j1
          · have o : ∀ j, j = 119 + 6 * u ∨ j = 124 + 6 * u → σ6 j = σ j := fun j hj => f6' j (by omega) (by omega) (by omega) (by omega)
            unfold ic_w1
            rw [o _ (Or.inl rfl), o _ (Or.inr rfl)]; exact r' u u0 u1
        · by_cases q : u = v
          · rw [q, q1]; omega
          · rw [f6.1 _ (by omega) (by omega) (by omega) (by omega)]; exact fl u u0 (by omega)
  exact L 20 0 σ0 (by omega) (by omega) (by omega) i (fun _ _ => rfl) (fun u u0 u1 => absurd u1 (by omega))
/-! the class: many, made -/
theorem ic_G_k {h told : Int} {σ σ' : ml_St} (e0 : ∀ b, b ≠ 11 → σ' 55 b = σ 55 b) (r0 : 0 ≤ σ' 55 11) (r1 : σ' 55 11 ≤ 1000) (e : ∀ j, (j = 56 ∨ j = 57 ∨ j = 58 ∨ j = 59 ∨ j = 61) → σ' j = σ j) (g : ic_G h told σ) : ic_G h told σ' := by
  unfold ic_G at g ⊢
  rw [e0 1 (by omega), e0 2 (by omega), e 56 (by omega), e 57 (by omega), e 58 (by omega), e 59 (by omega), e 61 (by omega)]
  obtain ⟨g1, g2, g3, g4, g5, g6, g7, g8, g9, g10⟩ := g
  exact ⟨g1, g2, g3, g4, g5, g6, g7, g8, r0, r1⟩
theorem ic_X_k {h told : Int} {mk : Int → Int → Int} {σ σ' : ml_St} (e0 : ∀ b, b ≠ 11 → σ' 55 b = σ 55 b) (e : ∀ j, (j = 56 ∨ j = 57 ∨ j = 58 ∨ j = 59 ∨ j = 61) → σ' j = σ j) (w : ic_W σ') (x : ic_X h told mk σ) : ic_X h told mk σ' := by
  obtain ⟨x1, ⟨S, x2⟩, x3⟩ := x
  refine ⟨?_, ⟨S, ?_⟩, w⟩
  · rw [e0 0 (by omega), e0 1 (by omega), e 56 (by omega)]; exact x1
  · unfold ic_Y at *
    rw [e0 1 (by omega), e0 2 (by omega), e 56 (by omega), e 57 (by omega), e 58 (by omega), e 59 (by omega), e 61 (by omega)]; exact x2
theorem s_closeAll {Q : ml_St → Prop} {h told frm i : Int} {mk S : Int → Int → Int} {cl : Int → Int} {σ0 : ml_St} (h2 : 2 ≤ h) (h5 : h ≤ 5) (g : ic_G h told σ0) (Y : ic_Y h mk frm i S σ0) (hc : mt_M h cl) (ec : mt_eq h (σ0 5) cl) (k : ∀ σ, (∀ j, j ≠ 60 → j ≠ 65 → σ j = σ0 j) → (∀ p, 0 ≤ p → p < σ0 55 2 → 0 ≤ σ 60 p ∧ σ 60 p ≤ 10) → (∀ p, 0 ≤ p → p < σ0 55 2 → σ 60 p = mt_cl h (S p) cl) → Q σ) : f_X7_closeAll σ0 h Q := by
  obtain ⟨g1, g2, g3, g4, g5, g6, g7, g8, g9, g10⟩ := g
  obtain ⟨⟨y1, y2, y3, y4, y5, y6⟩, y7, y8, y9, y10⟩ := Y
  have L : ∀ (N : Nat) (p : Int) (σ : ml_St), 0 ≤ p → p ≤ σ0 55 2 → σ0 55 2 - p < N → (∀ j, j ≠ 60 → j ≠ 65 → σ j = σ0 j) → (∀ q, 0 ≤ q → q < p → 0 ≤ σ 60 q ∧ σ 60 q ≤ 10) → (∀ q, 0 ≤ q → q < p → σ 60 q = mt_cl h (S q) cl) → f_X7_closeAll_u2 Q (f_X7_closeAll_u52 Q) N σ h p := by
    intro N
    induction N with
    | zero => intro p σ p0 p1 hN; omega
    | succ N ih =>
      intro p σ p0 p1 hN f hq hx
      unfold f_X7_closeAll_u2
      unfold f_X7_closeAll_u52
      rw [f 55 (by omega) (by omega)]
      refine fun _ => ⟨fun _ => k σ f (fun q q0 q1 => hq q q0 (by omega)) (fun q q0 q1 => hx q q0 (by omega)), fun c => ⟨mt_I (by omega) (by omega), by omega, by omega, by omega, by omega, by omega, fun σ4 s4 => ?_⟩⟩
      have v1 := y3 p p0 (by omega)
      have e65 : mt_eq h (σ4 (64 + 1)) (S p) := fun e e0 e1 => by
        rw [s4, mt_cpy2, if_pos ⟨by omega, e0, by omega⟩, show p * 10 + (e - 0) = 10 * p + e by omega, f 61 (by omega) (by omega)]
        exact y8 p e p0 (by omega) e0 e1
      refine s_loopsBy h2 h5 v1 hc e65 (fun e e0 e1 => by rw [s4, mt_cpy_k (by omega), f 5 (by omega) (by omega)]; exact ec e e0 e1) ?_
      have cb := mt_lbs_C (α := S p) (β := cl) h5 v1 hc (2 * h).toNat (by omega)
      have c0 : 0 ≤ mt_cl h (S p) cl ∧ mt_cl h (S p) cl ≤ 10 := ⟨cb.2.1, by have := cb.2.2.1; unfold mt_cl; omega⟩
      refine fun _ => ⟨p0, by omega, fun σ6 s6 => ⟨mt_I (by omega) (by omega), fun y e => ?_⟩⟩
      subst e
      refine ih (p + 1) σ6 (by omega) (by omega) (by omega) (fun j h1 h3 => by rw [s6, ml_up_k h1, s4, mt_cpy_k h3, f j h1 h3]) (fun q q0 q1 => ?_) (fun q q0 q1 => ?_)
      · rw [s6]
        by_cases z : q = p
        · rw [z, ml_up_same]; exact c0
        · rw [ml_up_i z, s4, mt_cpy_k (by omega)]; exact hq q q0 (by omega)
      · rw [s6]
        by_cases z : q = p
        · rw [z, ml_up_same]
        · rw [ml_up_i z, s4, mt_cpy_k (by omega)]; exact hx q q0 (by omega)
  unfold f_X7_closeAll f_X7_closeAll_u0
  exact ⟨950, L 950 0 σ0 (by omega) (by omega) (by omega) (fun _ _ _ => rfl) (fun q q0 q1 => absurd q1 (by omega)) (fun q q0 q1 => absurd q1 (by omega))⟩
/-- letters, places and where they lead -/
def mt_nx (L P : Int) (σ : ml_St) : Prop := σ 55 1 = L ∧ σ 55 2 = P ∧ ∀ p i, 0 ≤ p → p < P → 0 ≤ i → i < L → 1 ≤ σ 58 (6 * p + i) ∧ σ 58 (6 * p + i) < P ∧ 0 ≤ σ 59 (6 * p + i) ∧ σ 59 (6 * p + i) ≤ 3
theorem mb_l2i3 {x : Int} (h0 : -2147483648 ≤ x) (h1 : x ≤ 2147483647) : b_l2i x = x := by
  unfold b_l2i
  rw [Int64.toInt32_ofInt, Int32.toInt_ofInt, Int.bmod_def, show ((Int32.size : Nat) : Int) = 4294967296 from rfl]
  split <;> omega
/-- counts, in their ranges -/
theorem ms_Wa_r {nx mo V : Int → Int → Int} {q l p : Int} (v : ∀ l', 0 ≤ l' → l' ≤ l → 0 ≤ V p l' ∧ V p l' ≤ 998244352) : ∀ a : Nat, (∀ i : Int, 0 ≤ i → i < a → 0 ≤ mo p i) → 0 ≤ ms_Wa nx mo V q l p a ∧ ms_Wa nx mo V q l p a ≤ 998244352 * a := by
  intro a
  induction a with
  | zero => intro _; exact ⟨Int.le_refl 0, Int.le_refl 0⟩
  | succ a ih =>
    intro h
    have i := ih (fun i i0 i1 => h i i0 (by omega))
    have m := h a (by omega) (by omega)
    unfold ms_Wa
    by_cases z : nx p a = q ∧ mo p a ≤ l
    · rw [if_pos z]
      have := v (l - mo p a) (by omega) (by omega)
      omega
    · rw [if_neg z]; omega
theorem ms_Wa_c {nx mo V V' : Int → Int → Int} {q l p : Int} (v : ∀ l', 0 ≤ l' → l' ≤ l → V p l' = V' p l') : ∀ a : Nat, (∀ i : Int, 0 ≤ i → i < a → 0 ≤ mo p i) → ms_Wa nx mo V q l p a = ms_Wa nx mo V' q l p a := by
  intro a
  induction a with
  | zero => intro _; rfl
  | succ a ih =>
    intro h
    have m := h a (by omega) (by omega)
    unfold ms_Wa
    rw [ih (fun i i0 i1 => h i i0 (by omega))]
    by_cases z : nx p a = q ∧ mo p a ≤ l
    · rw [if_pos z, if_pos z, v (l - mo p a) (by omega) (by omega)]
    · rw [if_neg z, if_neg z]
theorem ms_Wp_c {L : Int} {nx mo V V' : Int → Int → Int} {q l : Int} : ∀ p : Nat, (∀ p', 0 ≤ p' → p' < p → ∀ l', 0 ≤ l' → l' ≤ l → V p' l' = V' p' l') → (∀ p' i, 0 ≤ p' → p' < p → 0 ≤ i → i < L → 0 ≤ mo p' i) → ms_Wp L nx mo V q l p = ms_Wp L nx mo V' q l p := by
  intro p
  induction p with
  | zero => intro _ _; rfl
  | succ p ih =>
    intro h m
    unfold ms_Wp
    rw [ih (fun p' a b => h p' a (by omega)) (fun p' i a b => m p' i a (by omega)), ms_Wa_c (fun l' a b => h p (by omega) (by omega) l' a b) _ (fun i i0 i1 => m p i (by omega) (by omega) i0 (by omega))]
theorem ms_W_r {L P : Int} {nx mo : Int → Int → Int} (n : Nat) (q l : Int) : 0 ≤ ms_W L P nx mo n q l ∧ ms_W L P nx mo n q l ≤ 998244352 := by
  cases n with
  | zero => show 0 ≤ (if q = 0 ∧ l = 0 then (1 : Int) else 0) ∧ (if q = 0 ∧ l = 0 then (1 : Int) else 0) ≤ 998244352; split <;> omega
  | succ n => show 0 ≤ ms_Wp L nx mo (ms_W L P nx mo n) q l P.toNat % 998244353 ∧ ms_Wp L nx mo (ms_W L P nx mo n) q l P.toNat % 998244353 ≤ 998244352; omega
set_option maxHeartbeats 1000000 in
theorem s_spread {Q : ml_St → Prop} {L P f : Int} {σ0 : ml_St} (L1 : 1 ≤ L) (L6 : L ≤ 6) (P1 : P ≤ 946) (n : mt_nx L P σ0) (f0 : 0 ≤ f) (f1 : f < P) (v : ∀ l, 0 ≤ l → l < 3 → 0 ≤ σ0 62 (3 * f + l) ∧ σ0 62 (3 * f + l) ≤ 998244352) (A : ∀ q l, 0 ≤ q → q < P → 0 ≤ l → l < 3 → 0 ≤ σ0 63 (3 * q + l) ∧ σ0 63 (3 * q + l) ≤ 5989466112 * f) (k : ∀ σ, (∀ j, j ≠ 63 → σ j = σ0 j) → (∀ q l, 0 ≤ q → q < P → 0 ≤ l → l < 3 → σ 63 (3 * q + l) = σ0 63 (3 * q + l) + ms_Wa (fun p a => σ0 58 (6 * p + a)) (fun p a => σ0 59 (6 * p + a)) (fun p l => σ0 62 (3 * p + l)) q l f L.toNat) → Q σ) : f_X7_spread σ0 f Q := by
  obtain ⟨n1, n2, n3⟩ := n
  have O : ∀ (N : Nat) (i : Nat) (σ : ml_St), (i : Int) ≤ L → L - i < N → (∀ j, j ≠ 63 → σ j = σ0 j) → (∀ q l, 0 ≤ q → q < P → 0 ≤ l → l < 3 → σ 63 (3 * q + l) = σ0 63 (3 * q + l) + ms_Wa (fun p a => σ0 58 (6 * p + a)) (fun p a => σ0 59 (6 * p + a)) (fun p l => σ0 62 (3 * p + l)) q l f i) → f_X7_spread_u5 Q (f_X7_spread_u85 Q) N σ f (f * 6 + i) := by
    intro N
    induction N with
    | zero => intro i σ i1 hN; omega
    | succ N ih =>
      intro i σ i1 hN fr hA
      unfold f_X7_spread_u5
      unfold f_X7_spread_u85
      rw [fr 55 (by omega), n1]
      refine ⟨mt_I (by omega) (by omega), fun _ => ⟨mt_I (by omega) (by omega), fun c => k σ fr ?_, fun c => ⟨by omega, by omega, ?_⟩⟩⟩
      · rw [show L.toNat = i by omega]; exact hA
      obtain ⟨m1, m2, m3, m4⟩ := n3 f i f0 f1 (by omega) (by omega)
      rw [show 6 * f + (i : Int) = f * 6 + i by omega] at m1 m2 m3 m4
      rw [fr 58 (by omega), fr 59 (by omega)]
      refine fun _ => ⟨mt_I (by omega) (by omega), by omega, by omega, fun _ => ⟨mt_I (by omega) (by omega), fun y9 e9 => ⟨10, ?_⟩⟩⟩
      have I : ∀ (M : Nat) (x : Int) (τ : ml_St), 0 ≤ x → x ≤ 3 → 3 - x < M → (∀ j, j ≠ 63 → τ j = σ0 j) → (∀ q l, 0 ≤ q → q < P → 0 ≤ l → l < 3 → τ 63 (3 * q + l) = σ 63 (3 * q + l) + (if σ0 58 (f * 6 + i) = q ∧ σ0 59 (f * 6 + i) ≤ l ∧ l < σ0 59 (f * 6 + i) + x then σ0 62 (3 * f + (l - σ0 59 (f * 6 + i))) else 0)) → f_X7_spread_u37 Q (f_X7_spread_u79 Q (f_X7_spread_u5 Q (f_X7_spread_u85 Q) N)) M τ f (f * 6 + i) y9 x := by
        intro M
        induction M with
        | zero => intro x σ x0 x1 hM; omega
        | succ M ihM =>
          intro x τ x0 x1 hM fr hB
          unfold f_X7_spread_u37
          rw [fr 59 (by omega)]
          refine ⟨by omega, by omega, fun _ => ⟨mt_I (by omega) (by omega), fun c3 => ?_, fun c3 => ⟨mt_I (by omega) (by omega), by omega, by omega, fun _ => ⟨mt_I (by omega) (by omega), mt_I (by omega) (by omega), by omega, by omega, fun _ => ⟨by omega, by omega, fun σ10 s10 => ⟨mt_I (by omega) (by omega), fun y e => ?_⟩⟩⟩⟩⟩⟩
          · unfold f_X7_spread_u79
            refine ⟨mt_I (by omega) (by omega), fun y e => ?_⟩
            have e : y = f * 6 + ((i + 1 : Nat) : Int) := by omega
            subst e
            refine ih (i + 1) τ (by omega) (by omega) fr (fun q l q0 q1 l0 l1 => ?_)
            rw [hB q l q0 q1 l0 l1, hA q l q0 q1 l0 l1]
            show _ = σ0 63 (3 * q + l) + (ms_Wa _ _ _ q l f i + if σ0 58 (6 * f + i) = q ∧ σ0 59 (6 * f + i) ≤ l then σ0 62 (3 * f + (l - σ0 59 (6 * f + i))) else 0)
            rw [show 6 * f + (i : Int) = f * 6 + i by omega]
            by_cases z : σ0 58 (f * 6 + i) = q ∧ σ0 59 (f * 6 + i) ≤ l
            · rw [if_pos ⟨z.1, z.2, by omega⟩, if_pos z]; omega
            · rw [if_neg (fun w => z ⟨w.1, w.2.1⟩), if_neg z]; omega
          · have hv := v x x0 (by omega)
            have hA' := hA (σ0 58 (f * 6 + i)) (σ0 59 (f * 6 + i) + x) (by omega) m2 (by omega) (by omega)
            have hA0 := A (σ0 58 (f * 6 + i)) (σ0 59 (f * 6 + i) + x) (by omega) m2 (by omega) (by omega)
            have wr := ms_Wa_r (nx := fun p a => σ0 58 (6 * p + a)) (mo := fun p a => σ0 59 (6 * p + a)) (V := fun p l => σ0 62 (3 * p + l)) (q := σ0 58 (f * 6 + i)) (l := σ0 59 (f * 6 + i) + x) (p := f) (fun l' a b => v l' a (by omega)) i (fun j j0 j1 => (n3 f j f0 f1 j0 (by omega)).2.2.1)
            have hB' := hB (σ0 58 (f * 6 + i)) (σ0 59 (f * 6 + i) + x) (by omega) m2 (by omega) (by omega)
            rw [if_neg (by omega)] at hB'
            have e1 : y9 + x = 3 * σ0 58 (f * 6 + i) + (σ0 59 (f * 6 + i) + x) := by omega
            rw [e1, fr 62 (by omega), show f * 3 + x = 3 * f + x by omega, w64_id ⟨by omega, by omega⟩] at s10
            subst e
            refine ihM (x + 1) σ10 (by omega) (by omega) (by omega) (fun j hj => by rw [s10, ml_up_k hj, fr j hj]) (fun q l q0 q1 l0 l1 => ?_)
            rw [s10]
            by_cases z : 3 * q + l = 3 * σ0 58 (f * 6 + i) + (σ0 59 (f * 6 + i) + x)
            · have zq : q = σ0 58 (f * 6 + i) := by omega
              have zl : l = σ0 59 (f * 6 + i) + x := by omega
              rw [z, ml_up_same, if_pos ⟨zq.symm, by omega, by omega⟩, hB', show l - σ0 59 (f * 6 + i) = x by omega]; omega
            · rw [ml_up_i z, hB q l q0 q1 l0 l1]
              by_cases z2 : σ0 58 (f * 6 + i) = q ∧ σ0 59 (f * 6 + i) ≤ l ∧ l < σ0 59 (f * 6 + i) + x
              · rw [if_pos z2, if_pos ⟨z2.1, z2.2.1, by omega⟩]
              · rw [if_neg z2, if_neg (fun w => z2 ⟨w.1, w.2.1, by omega⟩)]
      exact I 10 0 σ (by omega) (by omega) (by omega) fr (fun q l q0 q1 l0 l1 => by rw [if_neg (fun w => by omega)]; omega)
  unfold f_X7_spread f_X7_spread_u0
  refine ⟨mt_I (by omega) (by omega), fun y e => ⟨10, ?_⟩⟩
  have := O 10 0 σ0 (by omega) (by omega) (fun _ _ => rfl) (fun q l _ _ _ _ => by show _ = _ + (0 : Int); omega)
  rw [show f * 6 + ((0 : Nat) : Int) = f * 6 by omega] at this
  rw [e]; exact this
theorem s_lengthenRow {Q : ml_St → Prop} {L P : Int} {V : Int → Int → Int} {σ0 : ml_St} (L1 : 1 ≤ L) (L6 : L ≤ 6) (P0 : 1 ≤ P) (P1 : P ≤ 946) (n : mt_nx L P σ0) (v : ∀ p l, 0 ≤ p → p < P → 0 ≤ l → l < 3 → 0 ≤ V p l ∧ V p l ≤ 998244352 ∧ σ0 62 (3 * p + l) = V p l) (k : ∀ σ, (∀ j, j ≠ 62 → j ≠ 63 → σ j = σ0 j) → (∀ q l, 0 ≤ q → q < P → 0 ≤ l → l < 3 → σ 62 (3 * q + l) = ms_Wp L (fun p a => σ0 58 (6 * p + a)) (fun p a => σ0 59 (6 * p + a)) V q l P.toNat % 998244353) → Q σ) : f_X7_lengthenRow σ0 Q := by
  have nk : ∀ σ : ml_St, (∀ j, j ≠ 62 → j ≠ 63 → σ j = σ0 j) → mt_nx L P σ := fun σ f => by
    unfold mt_nx; rw [f 55 (by omega) (by omega), f 58 (by omega) (by omega), f 59 (by omega) (by omega)]; exact n
  have nk' := n.2.2
  have L2 : ∀ (N : Nat) (p : Int) (σ : ml_St), 0 ≤ p → p ≤ P * 3 → P * 3 - p < N → (∀ j, j ≠ 62 → j ≠ 63 → σ j = σ0 j) → (∀ q l, 0 ≤ q → q < P → 0 ≤ l → l < 3 → σ 63 (3 * q + l) = ms_Wp L (fun p a => σ0 58 (6 * p + a)) (fun p a => σ0 59 (6 * p + a)) V q l P.toNat ∧ 0 ≤ σ 63 (3 * q + l)) → (∀ q l, 0 ≤ q → q < P → 0 ≤ l → l < 3 → 3 * q + l < p → σ 62 (3 * q + l) = ms_Wp L (fun p a => σ0 58 (6 * p + a)) (fun p a => σ0 59 (6 * p + a)) V q l P.toNat % 998244353) → f_X7_lengthenRow_u31 Q (f_X7_lengthenRow_u63 Q) N σ p := by
    intro N
    induction N with
    | zero => intro p σ p0 p1 hN; omega
    | succ N ih =>
      intro p σ p0 p1 hN f h63 h62
      unfold f_X7_lengthenRow_u31
      unfold f_X7_lengthenRow_u63
      rw [(nk σ f).2.1]
      refine fun _ => ⟨mt_I (by omega) (by omega), fun _ => k σ f (fun q l q0 q1 l0 l1 => h62 q l q0 q1 l0 l1 (by omega)), fun c => ⟨p0, by omega, fun _ => ⟨by omega, p0, by omega, fun σ6 s6 => ⟨mt_I (by omega) (by omega), fun y e => ?_⟩⟩⟩⟩
      subst e
      have ep : p = 3 * (p / 3) + p % 3 := by omega
      obtain ⟨x1, x2⟩ := h63 (p / 3) (p % 3) (by omega) (by omega) (by omega) (by omega)
      rw [← ep] at x1 x2
      rw [Int.tmod_eq_emod_of_nonneg x2, x1] at s6
      refine ih (p + 1) σ6 (by omega) (by omega) (by omega) (fun j h1 h2 => by rw [s6, ml_up_k h1, f j h1 h2]) (fun q l q0 q1 l0 l1 => by rw [s6, ml_up_k (by omega)]; exact h63 q l q0 q1 l0 l1) (fun q l q0 q1 l0 l1 ql => ?_)
      rw [s6]
      by_cases z : 3 * q + l = p
      · have zq : q = p / 3 := by omega
        have zl : l = p % 3 := by omega
        rw [z, ml_up_same, zq, zl]
      · rw [ml_up_i z]; exact h62 q l q0 q1 l0 l1 (by omega)
  have L0 : ∀ (N : Nat) (p : Nat) (σ : ml_St), (p : Int) ≤ P → P - p < N → (∀ j, j ≠ 63 → σ j = σ0 j) → (∀ q l, 0 ≤ q → q < P → 0 ≤ l → l < 3 → σ 63 (3 * q + l) = ms_Wp L (fun p a => σ0 58 (6 * p + a)) (fun p a => σ0 59 (6 * p + a)) V q l p ∧ 0 ≤ σ 63 (3 * q + l) ∧ σ 63 (3 * q + l) ≤ 5989466112 * p) → f_X7_lengthenRow_u10 Q (f_X7_lengthenRow_u29 Q) N σ p := by
    intro N
    induction N with
    | zero => intro p σ p1 hN; omega
    | succ N ih =>
      intro p σ p1 hN f h63
      unfold f_X7_lengthenRow_u10
      have nσ := nk σ (fun j _ h2 => f j h2)
      rw [nσ.2.1]
      refine fun _ => ⟨fun c => ?_, fun c => s_spread L1 L6 P1 nσ (by omega) (by omega) (fun l l0 l1 => ?_) (fun q l q0 q1 l0 l1 => (h63 q l q0 q1 l0 l1).2) (fun σ3 f3 h3 => ⟨mt_I (by omega) (by omega), fun y e => ?_⟩)⟩
      · unfold f_X7_lengthenRow_u29
        exact ⟨3000, L2 3000 0 σ (by omega) (by omega) (by omega) (fun j _ h2 => f j h2) (fun q l q0 q1 l0 l1 => by
          obtain ⟨x1, x2, x3⟩ := h63 q l q0 q1 l0 l1
          rw [show P.toNat = p by omega]; exact ⟨x1, x2⟩) (fun q l q0 q1 l0 l1 z => by omega)⟩
      · rw [f 62 (by omega)]
        obtain ⟨x1, x2, x3⟩ := v p l (by omega) (by omega) l0 l1
        rw [x3]; exact ⟨x1, x2⟩
      · have e : y = ((p + 1 : Nat) : Int) := by omega
        subst e
        refine ih (p + 1) σ3 (by omega) (by omega) (fun j h2 => by rw [f3 j h2, f j h2]) (fun q l q0 q1 l0 l1 => ?_)
        obtain ⟨x1, x2, x3⟩ := h63 q l q0 q1 l0 l1
        have wa := h3 q l q0 q1 l0 l1
        rw [f 58 (by omega), f 59 (by omega), f 62 (by omega)] at wa
        have ec := ms_Wa_c (nx := fun p a => σ0 58 (6 * p + a)) (mo := fun p a => σ0 59 (6 * p + a)) (V := fun p l => σ0 62 (3 * p + l)) (V' := V) (q := q) (l := l) (p := p) (fun l' a b => (v p l' (by omega) (by omega) a (by omega)).2.2) L.toNat (fun i i0 i1 => (nk' p i (by omega) (by omega) i0 (by omega)).2.2.1)
        have er := ms_Wa_r (nx := fun p a => σ0 58 (6 * p + a)) (mo := fun p a => σ0 59 (6 * p + a)) (V := V) (q := q) (l := l) (p := p) (fun l' a b => by have := v p l' (by omega) (by omega) a (by omega); omega) L.toNat (fun i i0 i1 => (nk' p i (by omega) (by omega) i0 (by omega)).2.2.1)
        rw [ec] at wa
        refine ⟨?_, by omega, by omega⟩
        unfold ms_Wp
        rw [wa, x1]
  unfold f_X7_lengthenRow f_X7_lengthenRow_u0
  refine s_fill64 (by omega) (fun σ1 f1 z1 => ⟨950, ?_⟩)
  refine L0 950 0 σ1 (by omega) (by omega) f1 (fun q l q0 q1 l0 l1 => ?_)
  rw [z1 _ (by omega) (by omega)]
  exact ⟨rfl, by omega, by omega⟩
/-- of those that leave k loops, closed -/
def ms_T (c : Int → Int) (V : Int → Int → Int) (k : Int) : Nat → Int
  | 0 => 0
  | i + 1 => ms_T c V k i + (if (i : Int) % 3 + c (i / 3) = k then V (i / 3) (i % 3) else 0)
theorem s_howMany7 {Q : Int → ml_St → Prop} {L P n x : Int} {c : Int → Int} {σ0 : ml_St} (L1 : 1 ≤ L) (L6 : L ≤ 6) (P0 : 1 ≤ P) (P1 : P ≤ 946) (nx : mt_nx L P σ0) (W : ic_W σ0) (n0 : 1 ≤ n) (n1 : n ≤ 1000) (r0 : 0 ≤ σ0 55 11) (r1 : σ0 55 11 ≤ 1000) (cl : ∀ p, 0 ≤ p → p < P → 0 ≤ σ0 60 p ∧ σ0 60 p ≤ 10) (ce : ∀ p, 0 ≤ p → p < P → σ0 60 p = c p) (k : ∀ σ, (∀ j, j ≠ 55 → j ≠ 62 → j ≠ 63 → σ j = σ0 j) → (∀ b, b ≠ 11 → σ 55 b = σ0 55 b) → 0 ≤ σ 55 11 → σ 55 11 ≤ 1000 → ic_W σ → Q (ms_T c (ms_W L P (fun p a => σ0 58 (6 * p + a)) (fun p a => σ0 59 (6 * p + a)) n.toNat) x (3 * P).toNat % 998244353) σ) : f_X7_howMany σ0 n x Q := by
  have mo0 := nx.2.2
  have WI : ∀ σ : ml_St, (∀ j, j ≠ 55 → j ≠ 62 → j ≠ 63 → σ j = σ0 j) → (∀ b, b ≠ 11 → σ 55 b = σ0 55 b) → (ic_W σ ↔ ∀ p l, 0 ≤ p → p < P → 0 ≤ l → l < 3 → σ 62 (3 * p + l) = ms_W L P (fun p a => σ0 58 (6 * p + a)) (fun p a => σ0 59 (6 * p + a)) (σ 55 11).toNat p l) := fun σ f fb => by
    unfold ic_W
    rw [fb 1 (by omega), fb 2 (by omega), f 58 (by omega) (by omega) (by omega), f 59 (by omega) (by omega) (by omega), nx.1, nx.2.1]
  have U : ∀ σ : ml_St, (∀ j, j ≠ 55 → j ≠ 62 → j ≠ 63 → σ j = σ0 j) → (∀ b, b ≠ 11 → σ 55 b = σ0 55 b) → σ 55 11 = n → ic_W σ → f_X7_howMany_u37 Q σ x := by
    intro σ f fb q0 hW
    have hR := (WI σ f fb).1 hW
    rw [q0] at hR
    have S : ∀ (N : Nat) (p : Nat), (p : Int) ≤ P * 3 → P * 3 - p < N → 0 ≤ ms_T c (ms_W L P (fun p a => σ0 58 (6 * p + a)) (fun p a => σ0 59 (6 * p + a)) n.toNat) x p ∧ ms_T c (ms_W L P (fun p a => σ0 58 (6 * p + a)) (fun p a => σ0 59 (6 * p + a)) n.toNat) x p ≤ 998244352 * p → f_X7_howMany_u42 Q (f_X7_howMany_u87 Q) N σ x (ms_T c (ms_W L P (fun p a => σ0 58 (6 * p + a)) (fun p a => σ0 59 (6 * p + a)) n.toNat) x p) p := by
      intro N
      induction N with
      | zero => intro p p1 hN; omega
      | succ N ih =>
        intro p p1 hN hb
        have td : Int.tdiv (p : Int) 3 = (p : Int) / 3 := Int.tdiv_eq_ediv_of_nonneg (by omega)
        have tm : Int.tmod (p : Int) 3 = (p : Int) % 3 := Int.tmod_eq_emod_of_nonneg (by omega)
        have nxt : ∀ s, (p : Int) < P * 3 → s = ms_T c (ms_W L P (fun p a => σ0 58 (6 * p + a)) (fun p a => σ0 59 (6 * p + a)) n.toNat) x (p + 1) → 0 ≤ s → s ≤ 998244352 * ((p + 1 : Nat) : Int) → f_X7_howMany_u81 Q (f_X7_howMany_u42 Q (f_X7_howMany_u87 Q) N) σ x s p := by
          intro s hp es s0 s1
          unfold f_X7_howMany_u81
          refine ⟨mt_I (by omega) (by omega), fun y e => ?_⟩
          have e : y = ((p + 1 : Nat) : Int) := by omega
          rw [e, es]
          exact ih (p + 1) (by omega) (by omega) (by rw [← es]; exact ⟨s0, s1⟩)
        unfold f_X7_howMany_u42
        unfold f_X7_howMany_u87
        rw [fb 2 (by omega), nx.2.1, td, tm, f 60 (by omega) (by omega) (by omega)]
        refine fun _ => ⟨mt_I (by omega) (by omega), fun c9 => ⟨by omega, ?_⟩, fun c9 => ?_⟩
        · rw [Int.tmod_eq_emod_of_nonneg hb.1, mb_l2i3 (by omega) (by omega)]
          have := k σ f fb (by omega) (by omega) hW
          rw [show (3 * P).toNat = p by omega] at this
          exact this
        have cp := cl ((p : Int) / 3) (by omega) (by omega)
        have ep := ce ((p : Int) / 3) (by omega) (by omega)
        refine ⟨by omega, mt_I (by omega) (by omega), by omega, mt_I (by omega) (by omega), by omega, by omega, fun _ => ⟨mt_I (by omega) (by omega), fun z => nxt _ (by omega) ?_ hb.1 (by omega), fun z => ⟨by omega, by omega, fun _ y11 e11 => ?_⟩⟩⟩
        · show _ = ms_T _ _ _ p + _
          rw [if_neg (by rw [← ep]; exact z)]; omega
        · have h62 := hR ((p : Int) / 3) ((p : Int) % 3) (by omega) (by omega) (by omega) (by omega)
          rw [show 3 * ((p : Int) / 3) + (p : Int) % 3 = p by omega] at h62
          have wr := ms_W_r (L := L) (P := P) (nx := fun p a => σ0 58 (6 * p + a)) (mo := fun p a => σ0 59 (6 * p + a)) n.toNat ((p : Int) / 3) ((p : Int) % 3)
          rw [h62, w64_id ⟨by omega, by omega⟩] at e11
          refine nxt _ (by omega) ?_ (by omega) (by omega)
          show _ = ms_T _ _ _ p + _
          rw [if_pos (by rw [← ep]; exact z)]; exact e11
    unfold f_X7_howMany_u37
    exact ⟨3000, S 3000 0 (by omega) (by omega) ⟨Int.le_refl 0, Int.le_refl 0⟩⟩
  have G : ∀ (N : Nat) (σ : ml_St), (∀ j, j ≠ 55 → j ≠ 62 → j ≠ 63 → σ j = σ0 j) → (∀ b, b ≠ 11 → σ 55 b = σ0 55 b) → 0 ≤ σ 55 11 → σ 55 11 ≤ n → ic_W σ → 1001 - σ 55 11 < N → f_X7_howMany_u12 Q (f_X7_howMany_u37 Q) N σ n x := by
    intro N
    induction N with
    | zero => intro σ _ _ _ h _ hN; omega
    | succ N ih =>
      intro σ f fb q0 q1 hW hN
      unfold f_X7_howMany_u12
      have nxσ : mt_nx L P σ := by unfold mt_nx; rw [fb 1 (by omega), fb 2 (by omega), f 58 (by omega) (by omega) (by omega), f 59 (by omega) (by omega) (by omega)]; exact nx
      have hR := (WI σ f fb).1 hW
      refine fun _ => ⟨fun z => U σ f fb (by omega) hW, fun z => s_lengthenRow (V := ms_W L P (fun p a => σ0 58 (6 * p + a)) (fun p a => σ0 59 (6 * p + a)) (σ 55 11).toNat) L1 L6 P0 P1 nxσ (fun p l p0 p1 l0 l1 => ⟨(ms_W_r _ _ _).1, (ms_W_r _ _ _).2, hR p l p0 p1 l0 l1⟩) (fun σ3 f3 h3 => ?_)⟩
      rw [f3 55 (by omega) (by omega)]
      refine fun _ => ⟨mt_I (by omega) (by omega), fun σ6 s6 => ?_⟩
      have f6 : ∀ j, j ≠ 55 → j ≠ 62 → j ≠ 63 → σ6 j = σ0 j := fun j h1 h2 h3 => by rw [s6, ml_up_k h1, f3 j h2 h3, f j h1 h2 h3]
      have fb6 : ∀ b, b ≠ 11 → σ6 55 b = σ0 55 b := fun b hb => by rw [s6, ml_up_i hb, f3 55 (by omega) (by omega), fb b hb]
      refine ih σ6 f6 fb6 (by rw [s6, ml_up_same]; omega) (by rw [s6, ml_up_same]; omega) ((WI σ6 f6 fb6).2 (fun p l p0 p1 l0 l1 => ?_)) (by rw [s6, ml_up_same]; omega)
      have e11 : σ6 55 11 = σ 55 11 + 1 := by rw [s6, ml_up_same]
      rw [e11, show (σ 55 11 + 1).toNat = (σ 55 11).toNat + 1 by omega, s6, ml_up_k (by omega), h3 p l p0 p1 l0 l1, f 58 (by omega) (by omega) (by omega), f 59 (by omega) (by omega) (by omega)]
      rfl
  unfold f_X7_howMany f_X7_howMany_u0
  refine fun _ => ⟨fun z => ⟨1010, G 1010 σ0 (fun _ _ _ _ => rfl) (fun _ _ => rfl) r0 z W (by omega)⟩, fun _ => s_startRow (fun σ3 f3 fb3 z3 r3 => ⟨1010, ?_⟩)⟩
  have f3' : ∀ j, j ≠ 55 → j ≠ 62 → j ≠ 63 → σ3 j = σ0 j := fun j h1 h2 _ => f3 j h1 h2
  refine G 1010 σ3 f3' fb3 (by omega) (by omega) ((WI σ3 f3' fb3).2 (fun p l p0 p1 l0 l1 => ?_)) (by omega)
  rw [z3, r3 _ (by omega) (by omega)]
  show _ = if p = 0 ∧ l = 0 then (1 : Int) else 0
  by_cases z : p = 0 ∧ l = 0
  · rw [if_pos z, if_pos (by omega)]
  · rw [if_neg z, if_neg (by omega)]
theorem ic_G_nx {h told : Int} {σ : ml_St} (g : ic_G h told σ) : mt_nx (σ 55 1) (σ 55 2) σ := ⟨rfl, rfl, g.2.2.2.2.2.2.1⟩
/-- the class's places: what they are -/
def ms_C (h told : Int) (mk : Int → Int → Int) (set : Int) (L P : Int) (l : Int → Int) (S nx mo : Int → Int → Int) : Prop := 1 ≤ L ∧ L ≤ 6 ∧ 1 ≤ P ∧ P ≤ 946 ∧ ic_L set told L l ∧ mt_bf h L (fun a => mk (l a)) S nx P P 0 ∧ ∀ p a, 0 ≤ p → p < P → 0 ≤ a → a < L → mo p a = min 3 (mt_both h (mq_w (S p)) (mk (l a)) 20)
theorem ms_C_i {h told : Int} {mk : Int → Int → Int} {σ : ml_St} (g : ic_G h told σ) (x : ic_X h told mk σ) : ∃ S, ic_Y h mk (σ 55 2) 0 S σ ∧ ms_C h told mk (σ 55 0) (σ 55 1) (σ 55 2) (σ 56) S (fun p a => σ 58 (6 * p + a)) (fun p a => σ 59 (6 * p + a)) := by
  obtain ⟨x1, ⟨S, x2⟩, x3⟩ := x
  exact ⟨S, x2, g.1, g.2.1, g.2.2.2.1, g.2.2.2.2.1, x1, x2.1, fun p a p0 p1 a0 a1 => x2.2.1 p a p0 a0 a1 (Or.inl p1)⟩
theorem c_many {Q : Int → ml_St → Prop} {h told ts cap set n x : Int} {tb cl pr sz : Int → Int} {T : Int → Int → Int} {σ0 : ml_St} (i : IC h told ts cap tb cl pr sz T σ0) (k0 : ¬ (mt_ls told (mt_mk h T sz) set ∧ 1 ≤ n ∧ n ≤ 1000 ∧ 0 ≤ x ∧ x ≤ 3) → Q (-1) σ0) (k : mt_ls told (mt_mk h T sz) set → 1 ≤ n → n ≤ 1000 → 0 ≤ x → x ≤ 3 → ∀ σ L P l S nx mo, IC h told ts cap tb cl pr sz T σ → (∀ j, 215 ≤ j → σ j = σ0 j) → ms_C h told (mt_mk h T sz) set L P l S nx mo → Q (ms_T (fun p => mt_cl h (S p) cl) (ms_W L P nx mo n.toNat) x (3 * P).toNat % 998244353) σ) : f_X11_many σ0 set n x Q := by
  unfold f_X11_many f_X11_many_u0
  unfold f_X11_many_u29
  refine ⟨fun z => k0 (fun y => by omega), fun q1 => ⟨fun z => k0 (fun y => by omega), fun q2 => ⟨fun z => k0 (fun y => by omega), fun q3 => ⟨fun z => k0 (fun y => by omega), fun q4 => s_openLetters i (fun no _ => ⟨fun z => absurd rfl z, fun _ => k0 (fun y => no y.1)⟩) (fun ls σ iσ g X eset f _ => ⟨fun _ => ?_, fun z => absurd z (by omega)⟩)⟩⟩⟩⟩
  have c := iσ.2.2.1
  obtain ⟨S, Y, C⟩ := ms_C_i g X
  rw [iσ.1.1]
  refine fun _ => s_closeAll iσ.1.2.2.1 iσ.1.2.2.2.1 g Y c.2.2.2.1 c.2.2.1 (fun σ8 f8 c8 x8 => ?_)
  have e55 : σ8 55 = σ 55 := f8 55 (by omega) (by omega)
  have nx8 : mt_nx (σ 55 1) (σ 55 2) σ8 := by unfold mt_nx; rw [e55, f8 58 (by omega) (by omega), f8 59 (by omega) (by omega)]; exact ic_G_nx g
  have W8 : ic_W σ8 := by unfold ic_W; rw [e55, f8 58 (by omega) (by omega), f8 59 (by omega) (by omega), f8 62 (by omega) (by omega)]; exact X.2.2
  obtain ⟨g1, g2, g3, g4, g5, g6, g7, g8, g9, g10⟩ := id g
  refine s_howMany7 (c := fun p => mt_cl h (S p) cl) g1 g2 g4 g5 nx8 W8 (by omega) (by omega) (by rw [e55]; exact g9) (by rw [e55]; exact g10) c8 x8 (fun σ9 f9 fb9 z0 z1 W9 _ => ?_)
  have fs : mt_fs σ σ9 := fun j hj => by rw [f9 j (by omega) (by omega) (by omega), f8 j (by omega) (by omega)]
  rw [f8 58 (by omega) (by omega), f8 59 (by omega) (by omega)]
  rw [eset] at C
  refine k ls (by omega) (by omega) (by omega) (by omega) σ9 _ _ _ S _ _ (IC_fs fs ?_ iσ) (fun j hj => by rw [fs j (by omega), f j (by omega)]) C
  rcases iσ.2.2.2.2.2.2 with z | z
  · left; rw [fb9 0 (by omega), e55]; exact z
  · right
    have o : ∀ j, (j = 56 ∨ j = 57 ∨ j = 58 ∨ j = 59 ∨ j = 61) → σ9 j = σ j := fun j hj => by rw [f9 j (by omega) (by omega) (by omega), f8 j (by omega) (by omega)]
    exact ⟨z.1, ic_G_k (fun b hb => by rw [fb9 b hb, e55]) z0 z1 o g, ic_X_k (fun b hb => by rw [fb9 b hb, e55]) o W9 X⟩
theorem c_made {Q : Int → ml_St → Prop} {h told ts cap set : Int} {tb cl pr sz : Int → Int} {T : Int → Int → Int} {σ0 : ml_St} (i : IC h told ts cap tb cl pr sz T σ0) (k0 : ¬ mt_ls told (mt_mk h T sz) set → Q (-1) σ0) (k : mt_ls told (mt_mk h T sz) set → ∀ σ L P l S nx mo, IC h told ts cap tb cl pr sz T σ → (∀ j, 215 ≤ j → σ j = σ0 j) → ms_C h told (mt_mk h T sz) set L P l S nx mo → Q (P - 1) σ) : f_X11_made σ0 set Q := by
  unfold f_X11_made f_X11_made_u0
  unfold f_X11_made_u21
  refine s_openLetters i (fun no _ => ⟨fun _ => k0 no, fun z => absurd rfl z⟩) (fun ls σ iσ g X eset f _ => ⟨fun z => absurd z (by omega), fun _ _ => ?_⟩)
  obtain ⟨S, Y, C⟩ := ms_C_i g X
  rw [eset] at C
  exact ⟨mt_I (by have := g.2.2.2.1; omega) (by have := g.2.2.2.2.1; omega), k ls σ _ _ _ S _ _ iσ (fun j hj => f j (by omega)) C⟩
/-! words (as numbers, a letter a digit) in the order in which queues meet them -/
def mz_w (L : Int) (nx e : Int → Int → Int) : Nat → Int → Int → Int → Prop
  | 0, n, p, l => n = 0 ∧ p = 0 ∧ l = 0
  | m + 1, n, p, l => ∃ n' p' l' a, mz_w L nx e m n' p' l' ∧ 0 ≤ a ∧ a < L ∧ n = 7 * n' + a + 1 ∧ p = nx p' a ∧ l = l' + e p' a
def mz_q (B L PP : Int) (nx e : Int → Int → Int) (tail hd : Nat) (i : Int) (P U V : Nat → Int) : Prop := 1 ≤ tail ∧ (P 0 = 0 ∧ U 0 = 0 ∧ V 0 = 0) ∧ (∀ j : Nat, j < tail → 0 ≤ P j ∧ P j < PP ∧ 0 ≤ U j ∧ U j < B ∧ ∃ m : Nat, m ≤ j ∧ mz_w L nx e m (V j) (P j) (U j)) ∧ (∀ i j : Nat, i < j → j < tail → V i < V j) ∧ (∀ (j : Nat) (a : Int), j < tail → (j < hd ∨ (j = hd ∧ a < i)) → 0 ≤ a → a < L → U j + e (P j) a < B → ∃ j' : Nat, j' < tail ∧ P j' = nx (P j) a ∧ U j' = U j + e (P j) a ∧ V j' ≤ 7 * V j + a + 1) ∧ (hd < tail → ∀ j : Nat, j < tail → V j < 7 * V hd + i + 1)
/-- what nx and e keep to -/
def mz_n (L PP : Int) (nx e : Int → Int → Int) : Prop := ∀ p a, 0 ≤ p → p < PP → 0 ≤ a → a < L → 1 ≤ nx p a ∧ nx p a < PP ∧ 0 ≤ e p a
theorem mz_q_0 {B L PP : Int} {nx e : Int → Int → Int} {P U V : Nat → Int} (B1 : 1 ≤ B) (P1 : 1 ≤ PP) (p : P 0 = 0) (u : U 0 = 0) (v : V 0 = 0) : mz_q B L PP nx e 1 0 0 P U V := by
  refine ⟨Nat.le_refl 1, ⟨p, u, v⟩, fun j hj => ?_, fun i j hi hj => by omega, fun j a hj h a0 a1 => by omega, fun _ j hj => ?_⟩
  · have : j = 0 := by omega
    subst this
    rw [p, u, v]
    exact ⟨Int.le_refl 0, by omega, Int.le_refl 0, by omega, 0, Nat.le_refl 0, rfl, rfl, rfl⟩
  · have : j = 0 := by omega
    subst this
    rw [v]; omega
theorem mz_q_push {B L PP i : Int} {nx e : Int → Int → Int} {tail hd : Nat} {P U V P' U' V' : Nat → Int} (n : mz_n L PP nx e) (q : mz_q B L PP nx e tail hd i P U V) (ht : hd < tail) (i0 : 0 ≤ i) (i1 : i < L) (L6 : L ≤ 6) (hb : U hd + e (P hd) i < B) (hP : ∀ j : Nat, j < tail → P' j = P j) (hU : ∀ j : Nat, j < tail → U' j = U j) (hV : ∀ j : Nat, j < tail → V' j = V j) (eP : P' tail = nx (P hd) i) (eU : U' tail = U hd + e (P hd) i) (eV : V' tail = 7 * V hd + i + 1) : mz_q B L PP nx e (tail + 1) hd (i + 1) P' U' V' := by
  obtain ⟨q1, ⟨q2, q3, q4⟩, q5, q6, q7, q8⟩ := q
  obtain ⟨h1, h2, h3, h4, m, h5, h6⟩ := q5 hd ht
  obtain ⟨n1, n2, n3⟩ := n (P hd) i h1 h2 i0 i1
  refine ⟨by omega, ⟨by rw [hP 0 (by omega)]; exact q2, by rw [hU 0 (by omega)]; exact q3, by rw [hV 0 (by omega)]; exact q4⟩, fun j hj => ?_, fun a b hab hb' => ?_, fun j a hj h a0 a1 hlt => ?_, fun _ j hj => ?_⟩
  · by_cases z : j = tail
    · rw [z, eP, eU, eV]
      exact ⟨by omega, n2, by omega, hb, m + 1, by omega, V hd, P hd, U hd, i, h6, i0, i1, rfl, rfl, rfl⟩
    · rw [hP j (by omega), hU j (by omega), hV j (by omega)]; exact q5 j (by omega)
  · by_cases z : b = tail
    · rw [z, eV, hV a (by omega)]; exact q8 ht a (by omega)
    · rw [hV a (by omega), hV b (by omega)]; exact q6 a b hab (by omega)
  · have jt : j < tail := by omega
    rw [hP j jt, hU j jt] at hlt ⊢
    rw [hV j jt]
    by_cases z : j = hd ∧ a = i
    · refine ⟨tail, by omega, ?_, ?_, ?_⟩
      · rw [eP, z.1, z.2]
      · rw [eU, z.1, z.2]
      · rw [eV, z.1, z.2]; exact Int.le_refl _
    · obtain ⟨j', x1, x2, x3, x4⟩ := q7 j a jt (by omega) a0 a1 hlt
      exact ⟨j', by omega, by rw [hP j' x1]; exact x2, by rw [hU j' x1]; exact x3, by rw [hV j' x1]; exact x4⟩
  · rw [hV hd ht]
    by_cases z : j = tail
    · rw [z, eV]; omega
    · rw [hV j (by omega)]; have := q8 ht j (by omega); omega
theorem mz_q_skip {B L PP i : Int} {nx e : Int → Int → Int} {tail hd : Nat} {P U V : Nat → Int} (q : mz_q B L PP nx e tail hd i P U V) (ht : hd < tail) (h : U hd + e (P hd) i < B → ∃ j' : Nat, j' < tail ∧ P j' = nx (P hd) i ∧ U j' = U hd + e (P hd) i) : mz_q B L PP nx e tail hd (i + 1) P U V := by
  obtain ⟨q1, q2, q5, q6, q7, q8⟩ := q
  refine ⟨q1, q2, q5, q6, fun j a hj hh a0 a1 hlt => ?_, fun _ j hj => by have := q8 ht j hj; omega⟩
  by_cases z : j = hd ∧ a = i
  · rw [z.1, z.2] at hlt ⊢
    obtain ⟨j', x1, x2, x3⟩ := h hlt
    exact ⟨j', x1, x2, x3, by have := q8 ht j' x1; omega⟩
  · exact q7 j a hj (by omega) a0 a1 hlt
theorem mz_q_next {B L PP : Int} {nx e : Int → Int → Int} {tail hd : Nat} {P U V : Nat → Int} (L6 : L ≤ 6) (q : mz_q B L PP nx e tail hd L P U V) (ht : hd < tail) : mz_q B L PP nx e tail (hd + 1) 0 P U V := by
  obtain ⟨q1, q2, q5, q6, q7, q8⟩ := q
  refine ⟨q1, q2, q5, q6, fun j a hj hh a0 a1 hlt => q7 j a hj (by omega) a0 a1 hlt, fun h2 j hj => ?_⟩
  have a := q8 ht j hj
  have b := q6 hd (hd + 1) (by omega) h2
  omega
theorem mz_w_r {L PP : Int} {nx e : Int → Int → Int} (P1 : 1 ≤ PP) (n : mz_n L PP nx e) : ∀ (m : Nat) (v p l : Int), mz_w L nx e m v p l → 0 ≤ p ∧ p < PP ∧ 0 ≤ l ∧ 0 ≤ v := by
  intro m
  induction m with
  | zero => intro v p l h; obtain ⟨h1, h2, h3⟩ := h; omega
  | succ m ih =>
    intro v p l h
    obtain ⟨v', p', l', a, h1, a0, a1, h2, h3, h4⟩ := h
    obtain ⟨i1, i2, i3, i4⟩ := ih v' p' l' h1
    obtain ⟨n1, n2, n3⟩ := n p' a i1 i2 a0 a1
    omega
theorem mz_cov {B L PP i : Int} {nx e : Int → Int → Int} {tail hd : Nat} {P U V : Nat → Int} (P1 : 1 ≤ PP) (n : mz_n L PP nx e) (q : mz_q B L PP nx e tail hd i P U V) (i6 : i ≤ 6) : ∀ (m : Nat) (v p l : Int), mz_w L nx e m v p l → l < B → (hd < tail → v < 7 * V hd + i + 1) → ∃ j : Nat, j < tail ∧ P j = p ∧ U j = l ∧ V j ≤ v := by
  obtain ⟨q1, ⟨q2, q3, q4⟩, q5, q6, q7, q8⟩ := q
  intro m
  induction m with
  | zero =>
    intro v p l h _ _
    obtain ⟨h1, h2, h3⟩ := h
    exact ⟨0, by omega, by omega, by omega, by omega⟩
  | succ m ih =>
    intro v p l h hl hv
    obtain ⟨v', p', l', a, h1, a0, a1, h2, h3, h4⟩ := h
    obtain ⟨r1, r2, r3, r4⟩ := mz_w_r P1 n m v' p' l' h1
    have r5 := (n p' a r1 r2 a0 a1).2.2
    obtain ⟨j, j1, j2, j3, j4⟩ := ih v' p' l' h1 (by omega) (fun z => by have := hv z; omega)
    have done : j < hd ∨ (j = hd ∧ a < i) := by
      by_cases z : hd < tail
      · have hv := hv z
        by_cases z1 : j < hd
        · exact Or.inl z1
        · by_cases z2 : j = hd
          · rw [z2] at j4; right; exact ⟨z2, by omega⟩
          · have := q6 hd j (by omega) j1; omega
      · left; omega
    obtain ⟨j', y1, y2, y3, y4⟩ := q7 j a j1 done a0 a1 (by rw [j2, j3]; omega)
    rw [j2] at y2
    rw [j2, j3] at y3
    exact ⟨j', y1, by rw [y2, h3], by rw [y3, h4], by omega⟩
/-- the letter that comes n letters before the last -/
def mz_d : Int → Nat → Int
  | v, 0 => v % 7 - 1
  | v, n + 1 => mz_d (v / 7) n
/-- v is the least word of those that leave x loops; it has m letters -/
def mz_M (L : Int) (nx e : Int → Int → Int) (cT : Int → Int) (x : Int) (m : Nat) (v : Int) : Prop := 1 ≤ m ∧ (∃ p l, mz_w L nx e m v p l ∧ l + cT p = x) ∧ ∀ (m' : Nat) (v' p l : Int), mz_w L nx e (m' + 1) v' p l → l + cT p = x → v ≤ v'
def mz_N (L : Int) (nx e : Int → Int → Int) (cT : Int → Int) (x : Int) : Prop := ∀ (m' : Nat) (v' p l : Int), mz_w L nx e (m' + 1) v' p l → l + cT p ≠ x
theorem mz_w_m {L : Int} {nx e : Int → Int → Int} (n : ∀ m v p l, mz_w L nx e m v p l → 0 ≤ v) (L6 : L ≤ 6) : ∀ (m m' : Nat) (v p l p' l' : Int), mz_w L nx e m v p l → mz_w L nx e m' v p' l' → m = m' := by
  intro m
  induction m with
  | zero =>
    intro m' v p l p' l' h h'
    cases m' with
    | zero => rfl
    | succ m' =>
      obtain ⟨v1, p1, l1, a, h1, a0, a1, h2, -⟩ := h'
      have := n _ _ _ _ h1
      have := h.1
      omega
  | succ m ih =>
    intro m' v p l p' l' h h'
    obtain ⟨v1, p1, l1, a, h1, a0, a1, h2, -⟩ := h
    have x1 := n _ _ _ _ h1
    cases m' with
    | zero => have := h'.1; omega
    | succ m' =>
      obtain ⟨v2, p2, l2, b, h3, b0, b1, h4, -⟩ := h'
      have x2 := n _ _ _ _ h3
      have : v1 = v2 := by omega
      subst this
      rw [ih m' v1 p1 l1 p2 l2 h1 h3]
/-- the answer of a word -/
def mz_an (l : Int → Int) (m : Nat) (v x : Int) : Int := if x = -1 then (m : Int) else if 0 ≤ x ∧ x < m then l (mz_d v (m - 1 - x.toNat)) else -1
/-! the class: shortest, cheapest (that they end) -/
def mt_f70 (σ σ' : ml_St) : Prop := ∀ j, (j < 70 ∨ 75 < j) → σ' j = σ j
theorem mt_f70_t {σ σ1 σ2 : ml_St} (a : mt_f70 σ σ1) (b : mt_f70 σ1 σ2) : mt_f70 σ σ2 := fun j hj => by rw [b j hj, a j hj]
theorem mt_f70_up {k i v : Int} {σ : ml_St} (h1 : 70 ≤ k) (h2 : k ≤ 75) : mt_f70 σ (ml_up σ k i v) := fun j hj => ml_up_k (by omega)
theorem s_answer {Q : Int → ml_St → Prop} {x : Int} {σ : ml_St} (s1 : σ 70 5 ≤ 2838) (k : ∀ r, Q r σ) : f_X1_answer σ x Q := by
  unfold f_X1_answer f_X1_answer_u0
  unfold f_X1_answer_u31 f_X1_answer_u32
  exact ⟨fun _ => ⟨fun _ => k _, fun _ _ => ⟨fun _ => k _, fun _ => ⟨by omega, by omega, fun _ => k _⟩⟩⟩, fun _ _ => k _⟩
theorem mt_nx_k {L P : Int} {σ σ' : ml_St} (f : mt_f70 σ σ') (n : mt_nx L P σ) : mt_nx L P σ' := by
  unfold mt_nx; rw [f 55 (by omega), f 58 (by omega), f 59 (by omega)]; exact n
theorem mt_f70_kp {σ σ' : ml_St} (f : mt_f70 σ σ') : mt_kp σ σ' := fun j hj => f j (by omega)
theorem mt_cl_1 {h : Int} {α β : Int → Int} (h2 : 1 ≤ h) : 1 ≤ mt_cl h α β := by
  have z : ∀ n : Nat, 1 ≤ (mt_lbs α β (n + 1)).2 := by
    intro n
    induction n with
    | zero =>
      show 1 ≤ (if mb_t (mt_lbs α β 0).1 ((0 : Nat) : Int) = 0 then (b_or (mt_lbs α β 0).1 (mt_lm α β ((0 : Nat) : Int)), (mt_lbs α β 0).2 + 1) else mt_lbs α β 0).2
      rw [show mb_t (mt_lbs α β 0).1 ((0 : Nat) : Int) = 0 from mb_0 _, if_pos rfl]
      show (1 : Int) ≤ 0 + 1
      omega
    | succ n ih =>
      show 1 ≤ (if mb_t (mt_lbs α β (n + 1)).1 ((n + 1 : Nat) : Int) = 0 then (b_or (mt_lbs α β (n + 1)).1 (mt_lm α β ((n + 1 : Nat) : Int)), (mt_lbs α β (n + 1)).2 + 1) else mt_lbs α β (n + 1)).2
      split
      · show 1 ≤ (mt_lbs α β (n + 1)).2 + 1; omega
      · exact ih
  unfold mt_cl
  obtain ⟨n, hn⟩ : ∃ n, (2 * h).toNat = n + 1 := ⟨(2 * h).toNat - 1, by omega⟩
  rw [hn]; exact z n
theorem s_answer_x {Q : Int → ml_St → Prop} {x : Int} {σ : ml_St} (s1 : σ 70 5 ≤ 2838) (k : Q (if x = -1 then σ 70 5 else if 0 ≤ x ∧ x < σ 70 5 then σ 74 x else -1) σ) : f_X1_answer σ x Q := by
  unfold f_X1_answer f_X1_answer_u0
  unfold f_X1_answer_u31 f_X1_answer_u32
  refine ⟨fun z => ?_, fun z => ?_⟩
  · rw [if_neg z] at k
    refine ⟨fun z1 => ?_, fun z1 _ => ⟨fun z2 => ?_, fun z2 => ⟨by omega, by omega, fun _ => ?_⟩⟩⟩
    · rw [if_neg (by omega)] at k; exact k
    · rw [if_neg (by omega)] at k; exact k
    · rw [if_pos (by omega)] at k; exact k
  · rw [if_pos z] at k; exact fun _ => k
/-- the way back from a state: m letters, the word v -/
def cz_t (L : Int) (l : Int → Int) (σ : ml_St) : Nat → Int → Int → Prop
  | 0, s, v => s = 0 ∧ v = 0
  | m + 1, s, v => 1 ≤ s ∧ s < 2838 ∧ ∃ v' a, 0 ≤ a ∧ a < L ∧ v = 7 * v' + a + 1 ∧ σ 73 s = l a ∧ cz_t L l σ m (σ 72 s) v'
theorem cz_t_m {L : Int} {l : Int → Int} {σ : ml_St} {nx e : Int → Int → Int} (n : ∀ m v p l, mz_w L nx e m v p l → 0 ≤ v) (L6 : L ≤ 6) : ∀ (m m' : Nat) (s v p q : Int), cz_t L l σ m s v → mz_w L nx e m' v p q → 0 ≤ v ∧ m = m' := by
  intro m
  induction m with
  | zero =>
    intro m' s v p q h h'
    have h0 := h.2
    cases m' with
    | zero => exact ⟨by omega, rfl⟩
    | succ m' =>
      obtain ⟨v1, p1, l1, a, h1, a0, a1, h2, -⟩ := h'
      have := n _ _ _ _ h1
      omega
  | succ m ih =>
    intro m' s v p q h h'
    obtain ⟨s1, s2, v1, a, a0, a1, h2, -, h1⟩ := h
    have v0 := n _ _ _ _ h'
    cases m' with
    | zero =>
      have v0' : 0 ≤ v1 := by
        have : ∀ (m : Nat) (s v : Int), cz_t L l σ m s v → 0 ≤ v := by
          intro m
          induction m with
          | zero => intro s v h; have := h.2; omega
          | succ m ih => intro s v h; obtain ⟨-, -, v', a, a0, a1, e, -, h⟩ := h; have := ih _ _ h; omega
        exact this _ _ _ h1
      have := h'.1; omega
    | succ m' =>
      obtain ⟨v2, p2, l2, b, h3, b0, b1, h4, -⟩ := h'
      have x2 := n _ _ _ _ h3
      have : v1 = v2 := by omega
      subst this
      exact ⟨v0, by rw [(ih m' _ v1 p2 l2 h1 h3).2]⟩
theorem s_traceBack {Q : ml_St → Prop} {L : Int} {l : Int → Int} {m : Nat} {s V : Int} {σ0 : ml_St} (L6 : L ≤ 6) (m2 : m ≤ 2838) (t : cz_t L l σ0 m s V) (k : ∀ σ : ml_St, (∀ j, j ≠ 70 → j ≠ 74 → σ j = σ0 j) → σ 70 5 = m → (∀ i : Nat, i < m → σ 74 i = l (mz_d V (m - 1 - i))) → Q σ) : f_X1_traceBack σ0 s Q := by
  have B : ∀ (N : Nat) (r : Nat) (a v : Int) (σ : ml_St), r < N → r ≤ m → cz_t L l σ0 r a v → (∀ t : Nat, mz_d V (m - r + t) = mz_d v t) → (∀ i : Nat, r ≤ i → i < m → σ 74 i = l (mz_d V (m - 1 - i))) → (∀ j, j ≠ 70 → j ≠ 74 → σ j = σ0 j) → σ 70 5 = m → f_X1_traceBack_u50 Q (f_X1_traceBack_u79 Q) N σ a ((r : Int) - 1) := by
    intro N
    induction N with
    | zero => intro r a v σ hN; omega
    | succ N ih =>
      intro r a v σ hN rm t hd h74 f z
      unfold f_X1_traceBack_u50
      unfold f_X1_traceBack_u79
      refine ⟨fun c => k σ f z (fun i hi => h74 i (by omega) hi), fun c => ?_⟩
      obtain ⟨r', rfl⟩ : ∃ r', r = r' + 1 := ⟨r - 1, by omega⟩
      obtain ⟨a0, a1, v', b, b0, b1, ev, eb, t'⟩ := t
      refine ⟨by omega, a1, fun _ => ⟨by omega, by omega, fun σ3 s3 => ⟨by omega, a1, fun _ y5 e5 => ⟨mt_I (by omega) (by omega), fun y6 e6 => ?_⟩⟩⟩⟩
      have k3 : ∀ j, j ≠ 74 → σ3 j = σ j := fun j hj => by rw [s3, ml_up_k hj]
      rw [k3 72 (by omega), f 72 (by omega) (by omega)] at e5
      have e6 : y6 = (r' : Int) - 1 := by omega
      rw [e5, e6]
      have hv : v / 7 = v' := by omega
      refine ih r' (σ0 72 a) v' σ3 (by omega) (by omega) t' (fun t => ?_) (fun i hi im => ?_) (fun j h1 h2 => by rw [k3 j h2, f j h1 h2]) (by rw [k3 70 (by omega)]; exact z)
      · have := hd (t + 1)
        rw [show m - r' + t = m - (r' + 1) + (t + 1) by omega, this]
        show mz_d (v / 7) t = _
        rw [hv]
      · rw [s3]
        by_cases w : i = r'
        · rw [w, show ((r' + 1 : Nat) : Int) - 1 = (r' : Int) by omega, ml_up_same, f 73 (by omega) (by omega), eb]
          have := hd 0
          rw [show m - (r' + 1) + 0 = m - 1 - r' by omega] at this
          rw [this]
          show l b = l (v % 7 - 1)
          rw [show v % 7 - 1 = b by omega]
        · rw [ml_up_i (by omega)]; exact h74 i (by omega) im
  have A : ∀ (N : Nat) (c r : Nat) (a v : Int) (σ : ml_St), r < N → c + r = m → cz_t L l σ0 r a v → (∀ j, j ≠ 70 → σ j = σ0 j) → σ 70 5 = c → f_X1_traceBack_u7 Q (f_X1_traceBack_u41 Q) N σ s a := by
    intro N
    induction N with
    | zero => intro c r a v σ hN; omega
    | succ N ih =>
      intro c r a v σ hN cr ta f z
      have OUT : r = 0 → f_X1_traceBack_u41 Q σ s := fun r0 => by
        unfold f_X1_traceBack_u41
        have : c = m := by omega
        rw [z, this]
        refine fun _ => ⟨mt_I (by omega) (by omega), fun y3 e3 => ⟨2850, ?_⟩⟩
        rw [e3]
        exact B 2850 m s V σ (by omega) (Nat.le_refl m) t (fun t => by rw [show m - m + t = t by omega]) (fun i h1 h2 => by omega) (fun j h1 h2 => f j h1) (by rw [z, this])
      unfold f_X1_traceBack_u7
      rw [z]
      refine ⟨fun e => OUT ?_, fun e _ => ⟨fun _ => OUT (by omega), fun c2 _ => ⟨mt_I (by omega) (by omega), fun σ6 s6 => ?_⟩⟩⟩
      · cases r with
        | zero => rfl
        | succ r => have := ta.1; omega
      · cases r with
        | zero => exact absurd ta.1 e
        | succ r =>
          obtain ⟨a0, a1, v', b, b0, b1, ev, eb, t'⟩ := ta
          refine ⟨by omega, a1, fun _ y8 e8 => ?_⟩
          rw [s6, ml_up_k (by omega), f 72 (by omega)] at e8
          rw [e8]
          exact ih (c + 1) r (σ0 72 a) v' σ6 (by omega) (by omega) t' (fun j hj => by rw [s6, ml_up_k hj, f j hj]) (by rw [s6, ml_up_same]; omega)
  unfold f_X1_traceBack f_X1_traceBack_u0
  intro σ1 g1
  exact ⟨m + 1, A _ 0 m s V σ1 (by omega) (by omega) t (fun j hj => by rw [g1, ml_up_k hj]) (by rw [g1, ml_up_same]; rfl)⟩
/-- the class's queue: states, where each came from, by which letter -/
def cz_s (L : Int) (l : Int → Int) (σ : ml_St) (tail : Nat) (P U V : Nat → Int) : Prop := (∀ j : Nat, j < tail → σ 71 j = 3 * P j + U j ∧ σ 72 (σ 71 j) ≠ -1) ∧ (∀ j : Nat, 1 ≤ j → j < tail → ∃ (j' : Nat) (a : Int), j' < j ∧ 0 ≤ a ∧ a < L ∧ σ 72 (σ 71 j) = σ 71 j' ∧ σ 73 (σ 71 j) = l a ∧ V j = 7 * V j' + a + 1) ∧ (∀ s, 0 ≤ s → s < 2838 → σ 72 s ≠ -1 → ∃ j : Nat, j < tail ∧ s = σ 71 j) ∧ ∀ i j : Nat, i < j → j < tail → σ 71 i ≠ σ 71 j
theorem cz_room {L s : Int} {l : Int → Int} {σ : ml_St} {tail : Nat} {P U V : Nat → Int} (c : cz_s L l σ tail P U V) (r : ∀ j : Nat, j < tail → 0 ≤ σ 71 j ∧ σ 71 j < 2838) (s0 : 0 ≤ s) (s1 : s < 2838) (sv : σ 72 s = -1) : tail < 2838 := by
  by_cases z : tail < 2838
  · exact z
  · exfalso
    obtain ⟨i, j, hij, hj, e⟩ := mt_ph 2838 (fun i => if i < 2838 then σ 71 i else s) (fun i hi => by
      show 0 ≤ (if i < 2838 then σ 71 i else s) ∧ (if i < 2838 then σ 71 i else s) < ((2838 : Nat) : Int)
      split
      · rename_i z; have := r i (by omega); omega
      · omega)
    have e : (if i < 2838 then σ 71 i else s) = (if j < 2838 then σ 71 j else s) := e
    rw [if_pos (by omega)] at e
    by_cases z : j < 2838
    · rw [if_pos z] at e
      exact c.2.2.2 i j hij (by omega) e
    · rw [if_neg z] at e
      have := (c.1 i (by omega)).2
      rw [e] at this
      exact this sv
theorem cz_t_of {L : Int} {l : Int → Int} {σ : ml_St} {tail : Nat} {P U V : Nat → Int} (c : cz_s L l σ tail P U V) (r : ∀ j : Nat, 1 ≤ j → j < tail → 1 ≤ σ 71 j ∧ σ 71 j < 2838) (p0 : σ 71 0 = 0) (v0 : V 0 = 0) : ∀ (b j : Nat), j ≤ b → j < tail → ∃ m : Nat, m ≤ j ∧ cz_t L l σ m (σ 71 j) (V j) := by
  intro b
  induction b with
  | zero =>
    intro j hb hj
    have : j = 0 := by omega
    subst this
    exact ⟨0, Nat.le_refl 0, p0, v0⟩
  | succ b ih =>
    intro j hb hj
    by_cases z : j = 0
    · exact ih j (by omega) hj
    · obtain ⟨j', a, y1, y2, y3, y4, y5, y6⟩ := c.2.1 j (by omega) hj
      obtain ⟨m, m1, m2⟩ := ih j' (by omega) (by omega)
      obtain ⟨r1, r2⟩ := r j (by omega) hj
      exact ⟨m + 1, by omega, r1, r2, V j', a, y2, y3, y6, y5, by rw [y4]; exact m2⟩
theorem s_findShortest {Q : ml_St → Prop} {L P x : Int} {X e : Int → Int → Int} {cT : Int → Int} {σ0 : ml_St} (L1 : 1 ≤ L) (L6 : L ≤ 6) (P0 : 1 ≤ P) (P1 : P ≤ 946) (nx : mt_nx L P σ0) (hX : ∀ p a, X p a = σ0 58 (6 * p + a)) (he : ∀ p a, 0 ≤ p → p < P → 0 ≤ a → a < L → σ0 59 (6 * p + a) = min 3 (e p a)) (cl : ∀ p, 0 ≤ p → p < P → σ0 60 p = cT p ∧ 1 ≤ cT p ∧ cT p ≤ 10) (x3 : x ≤ 3) (k0 : ∀ σ, mt_f70 σ0 σ → mz_N L X e cT x → σ 70 5 = -1 → Q σ) (k : ∀ σ (m : Nat) V, mt_f70 σ0 σ → mz_M L X e cT x m V → m ≤ 2838 → σ 70 5 = m → (∀ i : Nat, i < m → σ 74 i = σ0 56 (mz_d V (m - 1 - i))) → Q σ) : f_X1_findShortest σ0 x Q := by
  obtain ⟨n1, n2, n3⟩ := nx
  have zn : mz_n L P X e := fun p a p0 p1 a0 a1 => by
    have a := n3 p a p0 p1 a0 a1
    have b := he p _ p0 p1 a0 a1
    rw [hX]; omega
  have wr := mz_w_r P0 zn
  have wv : ∀ m v p l, mz_w L X e m v p l → 0 ≤ v := fun m v p l h => (wr m v p l h).2.2.2
  -- a word that leaves x loops leads to a state that has a place in the queue
  have sat : ∀ (m : Nat) (v p l : Int), mz_w L X e (m + 1) v p l → l + cT p = x → l < 3 ∧ 1 ≤ p := fun m v p l h hx => by
    obtain ⟨r1, r2, r3, r4⟩ := wr _ _ _ _ h
    obtain ⟨v', p', l', a, h1, a0, a1, h2, h3, h4⟩ := h
    have q := wr _ _ _ _ h1
    have := (zn p' a q.1 q.2.1 a0 a1).1
    have := cl p r1 r2
    omega
  have H : ∀ (N : Nat) (hd tail : Nat) (σ : ml_St) (P' U V : Nat → Int), hd ≤ tail → tail ≤ 2838 → 2838 - (hd : Int) < N → mt_f70 σ0 σ → σ 70 5 = -1 → mz_q 3 L P X e tail hd 0 P' U V → cz_s L (σ0 56) σ tail P' U V → (∀ j : Nat, 1 ≤ j → j < tail → U j + cT (P' j) ≠ x) → f_X1_findShortest_u32 Q (f_X1_findShortest_u215 Q) N σ x tail hd := by
    intro N
    induction N with
    | zero => intro hd tail σ P' U V h0 h1 hN; omega
    | succ N ih =>
      intro hd tail σ P' U V h0 h1 hN f z5 q c ns
      unfold f_X1_findShortest_u32
      rw [z5]
      refine ⟨fun c1 => ?_, fun c1 => ⟨fun c2 => by omega, fun c2 _ => ⟨fun c3 => absurd rfl c3, fun _ => ⟨by omega, by omega, fun _ y6 e6 => ?_⟩⟩⟩⟩
      · unfold f_X1_findShortest_u215
        refine k0 σ f (fun m v p l h hx => ?_) z5
        obtain ⟨s1, s2⟩ := sat m v p l h hx
        obtain ⟨j, j1, j2, j3, j4⟩ := mz_cov P0 zn q (by omega) _ v p l h s1 (fun z => by omega)
        have : j ≠ 0 := fun z => by rw [z, q.2.1.1] at j2; omega
        exact ns j (by omega) j1 (by rw [j2, j3]; exact hx)
      have ht : hd < tail := by omega
      obtain ⟨a0, a1, u0, u1, -⟩ := q.2.2.1 hd ht
      have e6' : y6 = 3 * P' hd + U hd := by rw [e6, (c.1 hd ht).1]
      have td : Int.tdiv y6 3 = P' hd := by rw [Int.tdiv_eq_ediv_of_nonneg (by omega)]; omega
      have tm : Int.tmod y6 3 = U hd := by rw [Int.tmod_eq_emod_of_nonneg (by omega)]; omega
      rw [td]
      refine ⟨by omega, mt_I (by omega) (by omega), fun y8 e8 => ⟨10, ?_⟩⟩
      subst e8
      have I : ∀ (M : Nat) (i : Int) (tail : Nat) (σ : ml_St) (P'' U' V' : Nat → Int), 0 ≤ i → i ≤ L → L - i < M → hd < tail → tail ≤ 2838 → mt_f70 σ0 σ → σ 70 5 = -1 → mz_q 3 L P X e tail hd i P'' U' V' → cz_s L (σ0 56) σ tail P'' U' V' → (∀ j : Nat, 1 ≤ j → j < tail → U' j + cT (P'' j) ≠ x) → P'' hd = P' hd → U' hd = U hd → σ 71 hd = y6 → f_X1_findShortest_u72 Q (f_X1_findShortest_u209 Q (f_X1_findShortest_u32 Q (f_X1_findShortest_u215 Q) N)) M σ x tail hd y6 (P' hd) i := by
        intro M
        induction M with
        | zero => intro i tail σ P'' U' V' i0 i1 hM; omega
        | succ M ihM =>
          intro i tail σ P'' U' V' i0 i1 hM ht t2 f z5 q c ns eP eU ey
          unfold f_X1_findShortest_u72
          rw [f 55 (by omega), n1, z5]
          refine fun _ => ⟨fun c1 => ?_, fun c1 _ => ⟨fun c2 => absurd rfl c2, fun c2 => ⟨mt_I (by omega) (by omega), mt_I (by omega) (by omega), fun y7 e7 => ?_⟩⟩⟩
          · unfold f_X1_findShortest_u209
            refine ⟨mt_I (by omega) (by omega), fun y e => ?_⟩
            have e : y = ((hd + 1 : Nat) : Int) := by omega
            have ei : i = L := by omega
            rw [ei] at q
            rw [e]
            exact ih (hd + 1) tail σ P'' U' V' (by omega) t2 (by omega) f z5 (mz_q_next L6 q ht) c ns
          have hi : i < L := by omega
          obtain ⟨m1, m2, m3, m4⟩ := n3 (P' hd) i a0 a1 i0 hi
          have hXi := hX (P' hd) i
          have hei := he (P' hd) i a0 a1 i0 hi
          rw [show 6 * P' hd + i = y7 by omega] at m1 m2 m3 m4 hXi hei
          rw [f 59 (by omega), f 58 (by omega), tm, ← hXi, hei]
          rw [← hXi] at m1 m2
          rw [hei] at m3 m4
          generalize hE : e (P' hd) i = E at *
          generalize hY : X (P' hd) i = Y at *
          refine ⟨by omega, mt_I (by omega) (by omega), by omega, by omega, fun _ => ⟨mt_I (by omega) (by omega), fun y11 e11 => ⟨by omega, by omega, fun _ => ⟨mt_I (by omega) (by omega), mt_I (by omega) (by omega), fun y15 e15 => ?_⟩⟩⟩⟩
          have nxt : ∀ (tail : Nat) σ (P'' U' V' : Nat → Int), hd < tail → tail ≤ 2838 → mt_f70 σ0 σ → σ 70 5 = -1 → mz_q 3 L P X e tail hd (i + 1) P'' U' V' → cz_s L (σ0 56) σ tail P'' U' V' → (∀ j : Nat, 1 ≤ j → j < tail → U' j + cT (P'' j) ≠ x) → P'' hd = P' hd → U' hd = U hd → σ 71 hd = y6 → f_X1_findShortest_u203 Q (f_X1_findShortest_u72 Q (f_X1_findShortest_u209 Q (f_X1_findShortest_u32 Q (f_X1_findShortest_u215 Q) N)) M) σ x tail hd y6 (P' hd) i := by
            intro tail σ P'' U' V' ht t2 f z5 q c ns eP eU ey
            unfold f_X1_findShortest_u203
            refine ⟨mt_I (by omega) (by omega), fun y e => ?_⟩
            subst e
            exact ihM (i + 1) tail σ P'' U' V' (by omega) (by omega) (by omega) ht t2 f z5 q c ns eP eU ey
          refine ⟨fun c3 => nxt tail σ P'' U' V' ht t2 f z5 (mz_q_skip q ht (fun h => ?_)) c ns eP eU ey, fun c3 => ⟨by omega, by omega, fun _ => ⟨fun c4 => nxt tail σ P'' U' V' ht t2 f z5 (mz_q_skip q ht (fun h => ?_)) c ns eP eU ey, fun c4 => ⟨by omega, by omega, fun σ19 s19 => ⟨i0, by omega, fun _ => ⟨by omega, by omega, fun σ21 s21 => ?_⟩⟩⟩⟩⟩⟩
          · rw [eP, eU, hE] at h; omega
          · obtain ⟨j', j1, j2⟩ := c.2.2.1 y15 (by omega) (by omega) c4
            have cj := (c.1 j' j1).1
            obtain ⟨b0, b1, b2, b3, -⟩ := q.2.2.1 j' j1
            refine ⟨j', j1, ?_, ?_⟩
            · rw [eP, hY]; omega
            · rw [eP, eU, hE]; omega
          have room := cz_room c (fun j hj => by
            have cj := (c.1 j hj).1
            obtain ⟨b0, b1, b2, b3, -⟩ := q.2.2.1 j hj
            omega) (show 0 ≤ y15 by omega) (by omega) c4
          refine ⟨by omega, by omega, fun σ22 s22 => ⟨mt_I (by omega) (by omega), fun y23 e23 => ?_⟩⟩
          have f22 : mt_f70 σ0 σ22 := by
            rw [s22, s21, s19]
            exact mt_f70_t f (mt_f70_t (mt_f70_t (mt_f70_up (by omega) (by omega)) (mt_f70_up (by omega) (by omega))) (mt_f70_up (by omega) (by omega)))
          have e72 : ∀ s, σ22 72 s = if s = y15 then y6 else σ 72 s := fun s => by
            rw [s22, ml_up_k (by omega), s21, ml_up_k (by omega), s19]
            by_cases z : s = y15
            · rw [if_pos z, z, ml_up_same]
            · rw [if_neg z, ml_up_i z]
          have e73 : ∀ s, σ22 73 s = if s = y15 then σ0 56 i else σ 73 s := fun s => by
            rw [s22, ml_up_k (by omega), s21]
            by_cases z : s = y15
            · rw [if_pos z, z, ml_up_same, s19, ml_up_k (by omega), f 56 (by omega)]
            · rw [if_neg z, ml_up_i z, s19, ml_up_k (by omega)]
          have e71 : ∀ j : Nat, j < tail → σ22 71 j = σ 71 j := fun j hj => by
            rw [s22, ml_up_i (by omega), s21, ml_up_k (by omega), s19, ml_up_k (by omega)]
          have e71t : σ22 71 tail = y15 := by rw [s22, ml_up_same]
          have e70 : σ22 70 = σ 70 := by rw [s22, ml_up_k (by omega), s21, ml_up_k (by omega), s19, ml_up_k (by omega)]
          have ne : ∀ j : Nat, j < tail → σ 71 j ≠ y15 := fun j hj z => (c.1 j hj).2 (by rw [z]; exact c4)
          have iP : ∀ (g : Nat → Int) (w : Int) (j : Nat), j < tail → (fun j : Nat => if j = tail then w else g j) j = g j := fun g w j hj => if_neg (by omega)
          have iT : ∀ (g : Nat → Int) (w : Int), (fun j : Nat => if j = tail then w else g j) tail = w := fun g w => if_pos rfl
          have y11E : y11 = U hd + E := by omega
          have Q22 := mz_q_push (P' := fun j : Nat => if j = tail then Y else P'' j) (U' := fun j : Nat => if j = tail then y11 else U' j) (V' := fun j : Nat => if j = tail then 7 * V' hd + i + 1 else V' j) zn q ht i0 hi L6 (by rw [eP, eU, hE]; omega) (iP P'' Y) (iP U' y11) (iP V' _) (by show (if tail = tail then Y else P'' tail) = _; rw [if_pos rfl, eP, hY]) (by show (if tail = tail then y11 else U' tail) = _; rw [if_pos rfl, eP, eU, hE, y11E]) (iT V' _)
          generalize hP2 : (fun j : Nat => if j = tail then Y else P'' j) = P2 at Q22
          generalize hU2 : (fun j : Nat => if j = tail then y11 else U' j) = U2 at Q22
          generalize hV2 : (fun j : Nat => if j = tail then 7 * V' hd + i + 1 else V' j) = V2 at Q22
          have P2a : ∀ j : Nat, j < tail → P2 j = P'' j := fun j hj => by rw [← hP2]; exact iP P'' Y j hj
          have U2a : ∀ j : Nat, j < tail → U2 j = U' j := fun j hj => by rw [← hU2]; exact iP U' y11 j hj
          have V2a : ∀ j : Nat, j < tail → V2 j = V' j := fun j hj => by rw [← hV2]; exact iP V' _ j hj
          have P2t : P2 tail = Y := by rw [← hP2]; exact iT P'' Y
          have U2t : U2 tail = y11 := by rw [← hU2]; exact iT U' y11
          have V2t : V2 tail = 7 * V' hd + i + 1 := by rw [← hV2]; exact iT V' _
          have C22 : cz_s L (σ0 56) σ22 (tail + 1) P2 U2 V2 := by
            refine ⟨fun j hj => ?_, fun j j1 hj => ?_, fun s s0 s1 hs => ?_, fun a b ab hb => ?_⟩
            · by_cases z : j = tail
              · rw [z, e71t, e72, if_pos rfl, P2t, U2t]; omega
              · have jt : j < tail := by omega
                rw [e71 j jt, P2a j jt, U2a j jt, e72, if_neg (ne j jt)]; exact c.1 j jt
            · by_cases z : j = tail
              · refine ⟨hd, i, by omega, i0, hi, ?_, ?_, ?_⟩
                · rw [z, e71t, e72, if_pos rfl, e71 hd ht, ey]
                · rw [z, e71t, e73, if_pos rfl]
                · rw [z, V2t, V2a hd ht]
              · have jt : j < tail := by omega
                obtain ⟨j', a, w1, w2, w3, w4, w5, w6⟩ := c.2.1 j j1 jt
                refine ⟨j', a, w1, w2, w3, ?_, ?_, ?_⟩
                · rw [e71 j jt, e72, if_neg (ne j jt), e71 j' (by omega)]; exact w4
                · rw [e71 j jt, e73, if_neg (ne j jt)]; exact w5
                · rw [V2a j jt, V2a j' (by omega)]; exact w6
            · rw [e72] at hs
              by_cases z : s = y15
              · exact ⟨tail, by omega, by rw [e71t]; exact z⟩
              · rw [if_neg z] at hs
                obtain ⟨j, j1, j2⟩ := c.2.2.1 s s0 s1 hs
                exact ⟨j, by omega, by rw [e71 j j1]; exact j2⟩
            · have at' : a < tail := by omega
              rw [e71 a at']
              by_cases z : b = tail
              · rw [z, e71t]; exact ne a at'
              · rw [e71 b (by omega)]; exact c.2.2.2 a b ab (by omega)
          obtain ⟨cl1, cl2, cl3⟩ := cl Y (by omega) m2
          have e23' : y23 = ((tail + 1 : Nat) : Int) := by omega
          rw [f22 58 (by omega), f22 60 (by omega), ← hXi, cl1, e23']
          refine ⟨by omega, by omega, fun _ => ⟨by omega, by omega, fun _ => ⟨mt_I (by omega) (by omega), fun c5 => ?_, fun c5 => ?_⟩⟩⟩
          · refine nxt (tail + 1) σ22 P2 U2 V2 (by omega) (by omega) f22 (by rw [e70]; exact z5) Q22 C22 (fun j j1 hj => ?_) (by rw [P2a hd ht]; exact eP) (by rw [U2a hd ht]; exact eU) (by rw [e71 hd ht]; exact ey)
            by_cases z : j = tail
            · rw [z, U2t, P2t]; exact c5
            · rw [U2a j (by omega), P2a j (by omega)]; exact ns j j1 (by omega)
          · -- found
            have rg : ∀ j : Nat, 1 ≤ j → j < tail + 1 → 1 ≤ σ22 71 j ∧ σ22 71 j < 2838 := fun j j1 hj => by
              have cj := (C22.1 j hj).1
              obtain ⟨b0, b1, b2, b3, m', b4, b5⟩ := Q22.2.2.1 j hj
              have : m' ≠ 0 := fun z => by
                rw [z] at b5
                have v1 := Q22.2.2.2.1 0 j (by omega) hj
                rw [Q22.2.1.2.2] at v1
                have := b5.1; omega
              obtain ⟨m'', rfl⟩ : ∃ m'', m' = m'' + 1 := ⟨m' - 1, by omega⟩
              obtain ⟨v1, p1, l1, a, h1, a0, a1, h2, h3, h4⟩ := b5
              have q := wr _ _ _ _ h1
              have := (zn p1 a q.1 q.2.1 a0 a1).1
              omega
            have p00 : σ22 71 ((0 : Nat) : Int) = 0 := by rw [(C22.1 0 (by omega)).1, Q22.2.1.1, Q22.2.1.2.1]; rfl
            obtain ⟨m, mt, ct⟩ := cz_t_of C22 rg p00 Q22.2.1.2.2 tail tail (Nat.le_refl _) (by omega)
            rw [e71t] at ct
            obtain ⟨-, -, -, -, m', b4, b5⟩ := Q22.2.2.1 tail (by omega)
            have mm := (cz_t_m wv L6 m m' _ _ _ _ ct b5).2
            rw [← mm] at b5
            refine s_traceBack L6 (by omega) ct (fun σ28 f28 z5' z74 => ?_)
            have m1 : 1 ≤ m := by
              cases m with
              | zero => have := ct.1; omega
              | succ m => omega
            have KK := k σ28 m (V2 tail) (mt_f70_t f22 (fun j hj => f28 j (by omega) (by omega))) ⟨m1, ⟨_, _, b5, by rw [U2t, P2t]; exact c5⟩, fun m3 v p l h hx => by
              rcases Int.lt_or_le v (V2 tail) with z | z
              · exfalso
                obtain ⟨s1, s2⟩ := sat m3 v p l h hx
                obtain ⟨j, j1, j2, j3, j4⟩ := mz_cov P0 zn q (by omega) _ v p l h s1 (fun _ => by omega)
                have : j ≠ 0 := fun z => by rw [z, q.2.1.1] at j2; omega
                exact ns j (by omega) j1 (by rw [j2, j3]; exact hx)
              · exact z⟩ (by omega) z5' z74
            have n5 : σ28 70 5 ≠ -1 := by omega
            unfold f_X1_findShortest_u203
            refine ⟨mt_I (by omega) (by omega), fun y e => ?_⟩
            obtain ⟨M', rfl⟩ : ∃ M', M = M' + 1 := ⟨M - 1, by omega⟩
            obtain ⟨N', rfl⟩ : ∃ N', N = N' + 1 := ⟨N - 1, by omega⟩
            have OUT : f_X1_findShortest_u209 Q (f_X1_findShortest_u32 Q (f_X1_findShortest_u215 Q) (N' + 1)) σ28 x ((tail + 1 : Nat) : Int) hd := by
              unfold f_X1_findShortest_u209
              refine ⟨mt_I (by omega) (by omega), fun y e => ?_⟩
              unfold f_X1_findShortest_u32
              unfold f_X1_findShortest_u215
              exact ⟨fun _ => KK, fun _ => ⟨fun _ => KK, fun _ _ => ⟨fun _ => KK, fun z => absurd z n5⟩⟩⟩
            unfold f_X1_findShortest_u72
            exact fun _ => ⟨fun _ => OUT, fun _ _ => ⟨fun _ => OUT, fun z => absurd z n5⟩⟩
      exact I 10 0 tail σ P' U V (by omega) (by omega) (by omega) ht h1 f z5 q c ns rfl rfl e6.symm
  unfold f_X1_findShortest f_X1_findShortest_u0
  intro σ1 s1
  refine s_fill32 (by omega) (fun σ2 f2 x2 => ⟨by omega, by omega, fun σ3 s3 => ⟨by omega, by omega, fun σ4 s4 => ⟨2850, ?_⟩⟩⟩)
  have f4 : mt_f70 σ0 σ4 := fun j hj => by rw [s4, ml_up_k (by omega), s3, ml_up_k (by omega), f2 j (by omega), s1, ml_up_k (by omega)]
  have e72 : ∀ s, σ4 72 s = if s = 0 then 0 else σ2 72 s := fun s => by
    rw [s4, ml_up_k (by omega), s3]
    by_cases z : s = 0
    · rw [if_pos z, z, ml_up_same]
    · rw [if_neg z, ml_up_i z]
  have e70 : σ4 70 5 = -1 := by rw [s4, ml_up_k (by omega), s3, ml_up_k (by omega), f2 70 (by omega), s1, ml_up_same]
  have e71 : σ4 71 ((0 : Nat) : Int) = 0 := by rw [s4]; exact ml_up_same _ _ _ _
  refine H 2850 0 1 σ4 (fun _ => 0) (fun _ => 0) (fun _ => 0) (by omega) (by omega) (by omega) f4 e70 (mz_q_0 (by omega) P0 rfl rfl rfl) ⟨fun j hj => ?_, fun j j1 hj => by omega, fun s s0 s1 hs => ?_, fun a b ab hb => by omega⟩ (fun j j1 hj => by omega)
  · have : j = 0 := by omega
    subst this
    rw [e71, e72, if_pos rfl]
    exact ⟨rfl, by omega⟩
  · by_cases z : s = 0
    · exact ⟨0, by omega, by rw [e71]; exact z⟩
    · rw [e72, if_neg z] at hs
      exact absurd (x2 s s0 s1) hs
theorem c_shortest {Q : Int → ml_St → Prop} {h told ts cap set x y : Int} {tb cl pr sz : Int → Int} {T : Int → Int → Int} {σ0 : ml_St} (i : IC h told ts cap tb cl pr sz T σ0) (k0 : ¬ (mt_ls told (mt_mk h T sz) set ∧ 0 ≤ x ∧ x ≤ 3 ∧ -1 ≤ y) → Q (-1) σ0) (k1 : mt_ls told (mt_mk h T sz) set → 0 ≤ x → x ≤ 3 → -1 ≤ y → ∀ σ L P l S nx mo, IC h told ts cap tb cl pr sz T σ → (∀ j, 215 ≤ j → σ j = σ0 j) → ms_C h told (mt_mk h T sz) set L P l S nx mo → mz_n L P nx (fun p a => mt_both h (mq_w (S p)) (mt_mk h T sz (l a)) 20) → mz_N L nx (fun p a => mt_both h (mq_w (S p)) (mt_mk h T sz (l a)) 20) (fun p => mt_cl h (S p) cl) x → Q (-1) σ) (k2 : mt_ls told (mt_mk h T sz) set → 0 ≤ x → x ≤ 3 → -1 ≤ y → ∀ σ L P l S nx mo (m : Nat) V, IC h told ts cap tb cl pr sz T σ → (∀ j, 215 ≤ j → σ j = σ0 j) → ms_C h told (mt_mk h T sz) set L P l S nx mo → mz_n L P nx (fun p a => mt_both h (mq_w (S p)) (mt_mk h T sz (l a)) 20) → mz_M L nx (fun p a => mt_both h (mq_w (S p)) (mt_mk h T sz (l a)) 20) (fun p => mt_cl h (S p) cl) x m V → Q (mz_an l m V y) σ) : f_X11_shortest σ0 set x y Q := by
  unfold f_X11_shortest f_X11_shortest_u0
  unfold f_X11_shortest_u22
  refine ⟨fun z => k0 (fun y => by omega), fun q1 => ⟨fun z => k0 (fun y => by omega), fun q2 => ⟨fun z => k0 (fun y => by omega), fun q3 => s_openLetters i (fun no _ => ⟨fun z => absurd rfl z, fun _ => k0 (fun y => no y.1)⟩) (fun ls σ iσ g X eset f _ => ⟨fun _ => ?_, fun z => absurd z (by omega)⟩)⟩⟩⟩
  have kk1 := k1 ls (by omega) (by omega) (by omega)
  have kk2 := k2 ls (by omega) (by omega) (by omega)
  clear k0 k1 k2
  have c := iσ.2.2.1
  rw [iσ.1.1]
  obtain ⟨S, Y, C⟩ := ms_C_i g X
  rw [eset] at C
  refine fun _ => s_closeAll iσ.1.2.2.1 iσ.1.2.2.2.1 g Y c.2.2.2.1 c.2.2.1 (fun σ8 f8 c8 x8 => ?_)
  have e55 : σ8 55 = σ 55 := f8 55 (by omega) (by omega)
  have nx8 : mt_nx (σ 55 1) (σ 55 2) σ8 := by unfold mt_nx; rw [e55, f8 58 (by omega) (by omega), f8 59 (by omega) (by omega)]; exact ic_G_nx g
  obtain ⟨g1, g2, g3, g4, g5, g6, g7, g8, g9, g10⟩ := id g
  have zn : mz_n (σ 55 1) (σ 55 2) (fun p a => σ 58 (6 * p + a)) (fun p a => mt_both h (mq_w (S p)) (mt_mk h T sz (σ 56 a)) 20) := fun p a p0 p1 a0 a1 => by
    obtain ⟨z1, z2, z3, z4⟩ := g7 p a p0 p1 a0 a1
    have z5 : σ 59 (6 * p + a) = min 3 (mt_both h (mq_w (S p)) (mt_mk h T sz (σ 56 a)) 20) := C.2.2.2.2.2.2 p a p0 p1 a0 a1
    refine ⟨z1, z2, ?_⟩
    show 0 ≤ mt_both h (mq_w (S p)) (mt_mk h T sz (σ 56 a)) 20
    omega
  have fs : mt_fs σ σ8 := fun j hj => f8 j (by omega) (by omega)
  have i8 : IC h told ts cap tb cl pr sz T σ8 := by
    refine IC_fs fs ?_ iσ
    rcases iσ.2.2.2.2.2.2 with z | z
    · left; rw [e55]; exact z
    · right
      exact ⟨z.1, ic_G_k (fun b hb => by rw [e55]) (by rw [e55]; exact g9) (by rw [e55]; exact g10) (fun j hj => f8 j (by omega) (by omega)) g, ic_X_k (fun b hb => by rw [e55]) (fun j hj => f8 j (by omega) (by omega)) (by unfold ic_W; rw [e55, f8 58 (by omega) (by omega), f8 59 (by omega) (by omega), f8 62 (by omega) (by omega)]; exact X.2.2) X⟩
  refine s_findShortest (e := fun p a => mt_both h (mq_w (S p)) (mt_mk h T sz (σ 56 a)) 20) (cT := fun p => mt_cl h (S p) cl) (X := fun p a => σ 58 (6 * p + a)) g1 g2 g4 g5 nx8 (fun p a => by rw [f8 58 (by omega) (by omega)]) (fun p a p0 p1 a0 a1 => by rw [f8 59 (by omega) (by omega)]; exact C.2.2.2.2.2.2 p a p0 p1 a0 a1) (fun p p0 p1 => ⟨x8 p p0 p1, mt_cl_1 (by have := iσ.1.2.2.1; omega), by have := c8 p p0 p1; rw [x8 p p0 p1] at this; omega⟩) (by omega) (fun σ9 f9 no z5 => s_answer_x (by omega) ?_) (fun σ9 m V f9 mM m2 z5 z74 => s_answer_x (by omega) ?_)
  · have fr : ∀ j, 215 ≤ j → σ9 j = σ0 j := fun j hj => by rw [f9 j (by omega), f8 j (by omega) (by omega), f j (by omega)]
    have g := kk1 σ9 _ _ _ _ _ _ (IC_kp (mt_f70_kp f9) i8) fr C zn no
    rw [z5]
    by_cases w : y = -1
    · rw [if_pos w]; exact fun _ => g
    · rw [if_neg w, if_neg (by omega)]; exact fun _ => g
  · have fr : ∀ j, 215 ≤ j → σ9 j = σ0 j := fun j hj => by rw [f9 j (by omega), f8 j (by omega) (by omega), f j (by omega)]
    have g := kk2 σ9 _ _ _ _ _ _ m V (IC_kp (mt_f70_kp f9) i8) fr C zn mM
    unfold mz_an at g
    rw [z5]
    by_cases w : y = -1
    · rw [if_pos w] at g ⊢; exact fun _ => g
    · rw [if_neg w] at g ⊢
      by_cases v : 0 ≤ y ∧ y < m
      · rw [if_pos v] at g ⊢
        have := z74 y.toNat (by omega)
        rw [show ((y.toNat : Nat) : Int) = y by omega, f8 56 (by omega) (by omega)] at this
        rw [this]; exact fun _ => g
      · rw [if_neg v] at g ⊢; exact fun _ => g
/-! weights to a target: what they must be, and that they are one -/
def mx_bw (P L t : Int) (W : Int → Int) (nx : Int → Int → Int) (R : Int → Int) : Prop := R t = 0 ∧ (∀ p, 1 ≤ p → p < P → 0 ≤ R p ∧ R p ≤ 1000000000000000000) ∧ (∀ p a, 1 ≤ p → p < P → p ≠ t → 0 ≤ a → a < L → R p ≤ W a + R (nx p a)) ∧ ∀ p, 1 ≤ p → p < P → p ≠ t → R p < 1000000000000000000 → ∃ a, 0 ≤ a ∧ a < L ∧ R p = W a + R (nx p a)
/-- p leads to t by n letters, each of the least weight -/
def mx_td (L t : Int) (W : Int → Int) (nx : Int → Int → Int) (R : Int → Int) : Nat → Int → Prop
  | 0, p => p = t
  | n + 1, p => ∃ a, 0 ≤ a ∧ a < L ∧ R p = W a + R (nx p a) ∧ mx_td L t W nx R n (nx p a)
def mx_ct (R : Int → Int) (v : Int) : Nat → Nat
  | 0 => 0
  | n + 1 => mx_ct R v n + if R ((n : Int) + 1) < v then 1 else 0
theorem mx_ct_le {R : Int → Int} {v : Int} : ∀ n : Nat, mx_ct R v n ≤ n := by
  intro n
  induction n with
  | zero => exact Nat.le_refl 0
  | succ n ih => unfold mx_ct; split <;> omega
theorem mx_ct_m {R : Int → Int} {v w : Int} (h : v ≤ w) : ∀ n : Nat, mx_ct R v n ≤ mx_ct R w n := by
  intro n
  induction n with
  | zero => exact Nat.le_refl 0
  | succ n ih =>
    unfold mx_ct
    by_cases z : R ((n : Int) + 1) < v
    · rw [if_pos z, if_pos (by omega)]; omega
    · rw [if_neg z]; omega
theorem mx_ct_s {R : Int → Int} {v w q : Int} (h1 : v ≤ R q) (h2 : R q < w) (q1 : 1 ≤ q) : ∀ n : Nat, q ≤ n → mx_ct R v n + 1 ≤ mx_ct R w n := by
  intro n
  induction n with
  | zero => intro h; omega
  | succ n ih =>
    intro hq
    unfold mx_ct
    by_cases z : q = (n : Int) + 1
    · rw [← z, if_neg (by omega), if_pos h2]
      have := mx_ct_m (R := R) (v := v) (w := w) (by omega) n
      omega
    · have := ih (by omega)
      by_cases y : R ((n : Int) + 1) < v
      · rw [if_pos y, if_pos (by omega)]; omega
      · rw [if_neg y]; omega
theorem mx_td_e {P L t : Int} {W : Int → Int} {nx : Int → Int → Int} {R : Int → Int} (G : mx_bw P L t W nx R) (W1 : ∀ a, 0 ≤ a → a < L → 1 ≤ W a) (hn : ∀ p a, 0 ≤ p → p < P → 0 ≤ a → a < L → 1 ≤ nx p a ∧ nx p a < P) : ∀ (N : Nat) (p : Int), R p < N → 1 ≤ p → p < P → R p < 1000000000000000000 → ∃ n, n ≤ mx_ct R (R p) (P - 1).toNat ∧ mx_td L t W nx R n p := by
  obtain ⟨G1, G2, G3, G4⟩ := G
  intro N
  induction N with
  | zero => intro p h p1 p2; have := (G2 p p1 p2).1; omega
  | succ N ih =>
    intro p h p1 p2 f
    by_cases z : p = t
    · exact ⟨0, by omega, z⟩
    · obtain ⟨a, a0, a1, e⟩ := G4 p p1 p2 z f
      have w := W1 a a0 a1
      obtain ⟨n1, n2⟩ := hn p a (by omega) p2 a0 a1
      obtain ⟨n, h1, h2⟩ := ih (nx p a) (by omega) n1 n2 (by omega)
      exact ⟨n + 1, by have := mx_ct_s (R := R) (v := R (nx p a)) (w := R p) (q := nx p a) (Int.le_refl _) (by omega) n1 (P - 1).toNat (by omega); omega, a, a0, a1, e, h2⟩
/-- what nothing makes less isn't more -/
theorem mx_bw_le {P L t : Int} {W : Int → Int} {nx : Int → Int → Int} {R E : Int → Int} (G : mx_bw P L t W nx R) (W1 : ∀ a, 0 ≤ a → a < L → 1 ≤ W a) (hn : ∀ p a, 0 ≤ p → p < P → 0 ≤ a → a < L → 1 ≤ nx p a ∧ nx p a < P) (e0 : E t = 0) (e1 : ∀ p, 1 ≤ p → p < P → E p ≤ 1000000000000000000) (e2 : ∀ p a, 1 ≤ p → p < P → 0 ≤ a → a < L → E p ≤ W a + E (nx p a)) : ∀ (N : Nat) (p : Int), R p < N → 1 ≤ p → p < P → E p ≤ R p := by
  obtain ⟨G1, G2, G3, G4⟩ := G
  intro N
  induction N with
  | zero => intro p h p1 p2; have := (G2 p p1 p2).1; omega
  | succ N ih =>
    intro p h p1 p2
    by_cases z : p = t
    · rw [z, e0, G1]; exact Int.le_refl 0
    · by_cases f : R p < 1000000000000000000
      · obtain ⟨a, a0, a1, e⟩ := G4 p p1 p2 z f
        have w := W1 a a0 a1
        obtain ⟨n1, n2⟩ := hn p a (by omega) p2 a0 a1
        have := ih (nx p a) (by omega) n1 n2
        have := e2 p a p1 p2 a0 a1
        omega
      · have := e1 p p1 p2; have := (G2 p p1 p2).2; omega
/-- after r rounds -/
def mx_rr (P L t : Int) (W : Int → Int) (nx : Int → Int → Int) (E : Int → Int) : Prop := (∀ p, 0 ≤ p → p < 946 → 0 ≤ E p ∧ E p ≤ 1000000000000000000) ∧ E t = 0 ∧ ∀ R, mx_bw P L t W nx R → ∀ p, 1 ≤ p → p < P → R p ≤ E p
def mx_rd (P L t : Int) (W : Int → Int) (nx : Int → Int → Int) (E : Int → Int) (r p : Int) : Prop := ∀ R, mx_bw P L t W nx R → ∀ n : Nat, n ≤ r → mx_td L t W nx R n p → E p ≤ R p
def mx_rl (P L t : Int) (W : Int → Int) (nx : Int → Int → Int) (E : Int → Int) (r p i : Int) : Prop := ∀ R, mx_bw P L t W nx R → ∀ (n : Nat) b, n ≤ r → 0 ≤ b → b < i → R p = W b + R (nx p b) → mx_td L t W nx R n (nx p b) → E p ≤ R p
theorem mx_rr_set {P L t : Int} {W : Int → Int} {nx : Int → Int → Int} {E : Int → Int} (W1 : ∀ a, 0 ≤ a → a < L → 1 ≤ W a) (hn : ∀ p a, 0 ≤ p → p < P → 0 ≤ a → a < L → 1 ≤ nx p a ∧ nx p a < P) (P1 : P ≤ 946) {a i v : Int} (a0 : 0 ≤ a) (a1 : a < P) (i0 : 0 ≤ i) (i1 : i < L) (hv : v = W i + E (nx a i)) (lt : v < E a) {E' : Int → Int} (eo : ∀ p, p ≠ a → E' p = E p) (en : E' a = v) (X : mx_rr P L t W nx E) : mx_rr P L t W nx E' ∧ ∀ p, E' p ≤ E p := by
  obtain ⟨X1, X2, X3⟩ := X
  obtain ⟨n1, n2⟩ := hn a i a0 a1 i0 i1
  have w := W1 i i0 i1
  have y := X1 (nx a i) (by omega) (by omega)
  have ya := X1 a a0 (by omega)
  have ta : t ≠ a := fun e => by rw [e] at X2; omega
  refine ⟨⟨fun p p0 p1 => ?_, by rw [eo t ta]; exact X2, fun R G p p0 p1 => ?_⟩, fun p => ?_⟩
  · by_cases z : p = a
    · rw [z, en]; omega
    · rw [eo p z]; exact X1 p p0 p1
  · by_cases z : p = a
    · rw [z, en, hv]
      rw [z] at p0
      have g := G.2.2.1 a i p0 a1 (fun e => ta e.symm) i0 i1
      have := X3 R G (nx a i) n1 n2
      omega
    · rw [eo p z]; exact X3 R G p p0 p1
  · by_cases z : p = a
    · rw [z, en]; omega
    · rw [eo p z]; exact Int.le_refl _
theorem mx_rd_m {P L t : Int} {W : Int → Int} {nx : Int → Int → Int} {E E' : Int → Int} {r p : Int} (h : E' p ≤ E p) (x : mx_rd P L t W nx E r p) : mx_rd P L t W nx E' r p := fun R G n hn d => Int.le_trans h (x R G n hn d)
theorem mx_rl_m {P L t : Int} {W : Int → Int} {nx : Int → Int → Int} {E E' : Int → Int} {r p i : Int} (h : E' p ≤ E p) (x : mx_rl P L t W nx E r p i) : mx_rl P L t W nx E' r p i := fun R G n b hn b0 b1 e d => Int.le_trans h (x R G n b hn b0 b1 e d)
/-- one more letter was looked at -/
theorem mx_rl_s {P L t : Int} {W : Int → Int} {nx : Int → Int → Int} {E : Int → Int} {r p i : Int} (h : E p ≤ W i + E (nx p i)) (d : mx_rd P L t W nx E r (nx p i)) (x : mx_rl P L t W nx E r p i) : mx_rl P L t W nx E r p (i + 1) := fun R G n b hn b0 b1 e td => by
  by_cases z : b = i
  · subst z
    have := d R G n hn td
    omega
  · exact x R G n b hn b0 (by omega) e td
/-- all were -/
theorem mx_rd_s {P L t : Int} {W : Int → Int} {nx : Int → Int → Int} {E : Int → Int} {r p : Int} (et : E t = 0) (x : mx_rl P L t W nx E r p L) : mx_rd P L t W nx E (r + 1) p := fun R G n hn td => by
  cases n with
  | zero => rw [show p = t from td, et, G.1]; exact Int.le_refl 0
  | succ n =>
    obtain ⟨a, a0, a1, e, d⟩ := td
    exact x R G n a (by omega) a0 a1 e d
theorem s_weightBy_x {Q : Int → ml_St → Prop} {L P told a i : Int} {pr : Int → Int} {σ : ml_St} (L6 : L ≤ 6) (P1 : P ≤ 946) (t16 : told ≤ 16) (nx : mt_nx L P σ) (lt : ∀ i, 0 ≤ i → i < L → 0 ≤ σ 56 i ∧ σ 56 i < told) (pd : ic_D pr σ) (eb : ∀ p, 0 ≤ p → p < 946 → 0 ≤ σ 75 p ∧ σ 75 p ≤ 1000000000000000000) (a0 : 0 ≤ a) (a1 : a < P) (i0 : 0 ≤ i) (i1 : i < L) (k : Q (pr (σ 56 i) * 1048576 + 1 + σ 75 (σ 58 (6 * a + i))) σ) : f_X1_weightBy σ a i Q := by
  obtain ⟨n1, n2, n3⟩ := nx
  obtain ⟨m1, m2, m3, m4⟩ := n3 a i a0 a1 i0 i1
  rw [show 6 * a + i = a * 6 + i by omega] at m1 m2 k
  obtain ⟨l0, l1⟩ := lt i i0 i1
  obtain ⟨d1, d2, d3⟩ := pd (σ 56 i) l0 (by omega)
  obtain ⟨b0, b1⟩ := eb (σ 58 (a * 6 + i)) (by omega) (by omega)
  unfold f_X1_weightBy f_X1_weightBy_u0
  refine ⟨i0, by omega, fun _ => ⟨l0, by omega, fun _ y e => ⟨mt_I (by omega) (by omega), mt_I (by omega) (by omega), by omega, by omega, fun _ => ⟨by omega, by omega, fun _ => ?_⟩⟩⟩⟩
  rw [d1, w64_id (x := pr (σ 56 i) * 1048576) ⟨by omega, by omega⟩, w64_id (x := pr (σ 56 i) * 1048576 + 1) ⟨by omega, by omega⟩] at e
  rw [e, w64_id ⟨by omega, by omega⟩]
  exact k
theorem s_weighRests {Q : ml_St → Prop} {L P told t : Int} {pr W : Int → Int} {X : Int → Int → Int} {σ0 : ml_St} (L1 : 1 ≤ L) (L6 : L ≤ 6) (P0 : 1 ≤ P) (P1 : P ≤ 946) (t16 : told ≤ 16) (nx : mt_nx L P σ0) (lt : ∀ i, 0 ≤ i → i < L → 0 ≤ σ0 56 i ∧ σ0 56 i < told) (pd : ic_D pr σ0) (hW : ∀ i, W i = pr (σ0 56 i) * 1048576 + 1) (hX : ∀ p a, X p a = σ0 58 (6 * p + a)) (t0 : 1 ≤ t) (t1 : t < P) (k : ∀ σ, mt_f70 σ0 σ → (∀ p, 0 ≤ p → p < 946 → 0 ≤ σ 75 p ∧ σ 75 p ≤ 1000000000000000000) → (∀ R, mx_bw P L t W X R → ∀ p, 1 ≤ p → p < P → σ 75 p = R p) → Q σ) : f_X1_weighRests σ0 t Q := by
  have W1 : ∀ a, 0 ≤ a → a < L → 1 ≤ W a := fun a a0 a1 => by
    obtain ⟨l0, l1⟩ := lt a a0 a1
    have := pd (σ0 56 a) l0 (by omega)
    rw [hW]; omega
  have hn : ∀ p a, 0 ≤ p → p < P → 0 ≤ a → a < L → 1 ≤ X p a ∧ X p a < P := fun p a p0 p1 a0 a1 => by
    have := nx.2.2 p a p0 p1 a0 a1
    rw [hX]; omega
  have pdk : ∀ {σ}, mt_f70 σ0 σ → ic_D pr σ := fun f w w0 w1 => by rw [f _ (by omega)]; exact pd w w0 w1
  have R : ∀ (N : Nat) (ch rd : Int) (σ : ml_St), 0 ≤ rd → rd ≤ 946 → 946 - rd < N → mt_f70 σ0 σ → mx_rr P L t W X (σ 75) → (∀ p, 1 ≤ p → p < P → mx_rd P L t W X (σ 75) rd p) → (ch = 0 → ∀ p b, 1 ≤ p → p < P → 0 ≤ b → b < L → σ 75 p ≤ W b + σ 75 (X p b)) → f_X1_weighRests_u23 Q (f_X1_weighRests_u119 Q) N σ ch rd := by
    intro N
    induction N with
    | zero => intro ch rd σ r0 r1 hN; omega
    | succ N ih =>
      intro ch rd σ r0 r1 hN f xr xd xz
      unfold f_X1_weighRests_u23
      unfold f_X1_weighRests_u119
      rw [f 55 (by omega), nx.2.1]
      refine ⟨fun c => k σ f xr.1 (fun R G p p1 p2 => ?_), fun _ => ⟨fun c => k σ f xr.1 (fun R G p p1 p2 => ?_), fun c _ => ⟨mt_I (by omega) (by omega), fun y5 e5 => ⟨950, ?_⟩⟩⟩⟩
      · have a := mx_bw_le G W1 hn xr.2.1 (fun p p1 p2 => (xr.1 p (by omega) (by omega)).2) (fun p a p1 p2 a0 a1 => xz c p a p1 p2 a0 a1) ((R p).toNat + 1) p (by omega) p1 p2
        have b := xr.2.2 R G p p1 p2
        omega
      · have b := xr.2.2 R G p p1 p2
        by_cases z : R p < 1000000000000000000
        · obtain ⟨n, n1, n2⟩ := mx_td_e G W1 hn ((R p).toNat + 1) p (by omega) p1 p2 z
          have := mx_ct_le (R := R) (v := R p) (P - 1).toNat
          have := xd p p1 p2 R G n (by omega) n2
          omega
        · have := (xr.1 p (by omega) (by omega)).2
          omega
      have A : ∀ (M : Nat) (a ch : Int) (σ : ml_St), -1 ≤ a → a < P → a + 1 < M → mt_f70 σ0 σ → mx_rr P L t W X (σ 75) → (∀ p, 1 ≤ p → p < P → mx_rd P L t W X (σ 75) rd p) → (∀ p, 1 ≤ p → a < p → p < P → mx_rd P L t W X (σ 75) (rd + 1) p) → (ch = 0 → ∀ p b, 1 ≤ p → a < p → p < P → 0 ≤ b → b < L → σ 75 p ≤ W b + σ 75 (X p b)) → f_X1_weighRests_u47 Q (f_X1_weighRests_u113 Q (f_X1_weighRests_u23 Q (fun σ => Q σ) N)) M σ ch rd a := by
        intro M
        induction M with
        | zero => intro a ch σ a0 a1 hM; omega
        | succ M ihM =>
          intro a ch σ a0 a1 hM f xr xd xp xz
          unfold f_X1_weighRests_u47
          refine ⟨fun c2 => ?_, fun c2 => ⟨10, ?_⟩⟩
          · unfold f_X1_weighRests_u113
            refine ⟨mt_I (by omega) (by omega), fun y e => ?_⟩
            subst e
            exact ih ch (rd + 1) σ (by omega) (by omega) (by omega) f xr (fun p p1 p2 => xp p p1 (by omega) p2) (fun z p b p1 p2 b0 b1 => xz z p b p1 (by omega) p2 b0 b1)
          · have I : ∀ (V : Nat) (i ch : Int) (σ : ml_St), 0 ≤ i → i ≤ L → L - i < V → mt_f70 σ0 σ → mx_rr P L t W X (σ 75) → (∀ p, 1 ≤ p → p < P → mx_rd P L t W X (σ 75) rd p) → (∀ p, 1 ≤ p → a < p → p < P → mx_rd P L t W X (σ 75) (rd + 1) p) → mx_rl P L t W X (σ 75) rd a i → (ch = 0 → (∀ p b, 1 ≤ p → a < p → p < P → 0 ≤ b → b < L → σ 75 p ≤ W b + σ 75 (X p b)) ∧ ∀ b, 0 ≤ b → b < i → σ 75 a ≤ W b + σ 75 (X a b)) → f_X1_weighRests_u55 Q (f_X1_weighRests_u107 Q (f_X1_weighRests_u47 Q (f_X1_weighRests_u113 Q (f_X1_weighRests_u23 Q (fun σ => Q σ) N)) M)) V σ ch rd a i := by
              intro V
              induction V with
              | zero => intro i ch σ i0 i1 hW; omega
              | succ V ihV =>
                intro i ch σ i0 i1 hV f xr xd xp xl xz
                unfold f_X1_weighRests_u55
                rw [f 55 (by omega), nx.1]
                have nxt : ∀ ch σ, i < L → mt_f70 σ0 σ → mx_rr P L t W X (σ 75) → (∀ p, 1 ≤ p → p < P → mx_rd P L t W X (σ 75) rd p) → (∀ p, 1 ≤ p → a < p → p < P → mx_rd P L t W X (σ 75) (rd + 1) p) → mx_rl P L t W X (σ 75) rd a (i + 1) → (ch = 0 → (∀ p b, 1 ≤ p → a < p → p < P → 0 ≤ b → b < L → σ 75 p ≤ W b + σ 75 (X p b)) ∧ ∀ b, 0 ≤ b → b < i + 1 → σ 75 a ≤ W b + σ 75 (X a b)) → f_X1_weighRests_u101 Q (f_X1_weighRests_u55 Q (f_X1_weighRests_u107 Q (f_X1_weighRests_u47 Q (f_X1_weighRests_u113 Q (f_X1_weighRests_u23 Q (fun σ => Q σ) N)) M)) V) σ ch rd a i := by
                  intro ch σ hi f xr xd xp xl xz
                  unfold f_X1_weighRests_u101
                  refine ⟨mt_I (by omega) (by omega), fun y e => ?_⟩
                  subst e
                  exact ihV (i + 1) ch σ (by omega) (by omega) (by omega) f xr xd xp xl xz
                refine fun _ => ⟨fun c3 => ?_, fun c3 => ?_⟩
                · unfold f_X1_weighRests_u107
                  refine ⟨mt_I (by omega) (by omega), fun y e => ?_⟩
                  have e : y = a - 1 := by omega
                  subst e
                  have ei : i = L := by omega
                  rw [ei] at xl xz
                  refine ihM (a - 1) ch σ (by omega) (by omega) (by omega) f xr xd (fun p p1 ap p2 => ?_) (fun z p b p1 ap p2 b0 b1 => ?_)
                  · by_cases w : p = a
                    · rw [w]; exact mx_rd_s xr.2.1 xl
                    · exact xp p p1 (by omega) p2
                  · by_cases w : p = a
                    · rw [w]; exact (xz z).2 b b0 b1
                    · exact (xz z).1 p b p1 (by omega) p2 b0 b1
                have hi : i < L := by omega
                obtain ⟨v1, v2⟩ := hn a i (by omega) a1 i0 hi
                refine s_weightBy_x L6 P1 t16 (mt_nx_k f nx) (by rw [f 56 (by omega)]; exact lt) (pdk f) xr.1 (by omega) a1 i0 hi ?_
                rw [f 56 (by omega), f 58 (by omega), ← hW, ← hX]
                refine fun _ => ⟨by omega, by omega, fun _ => ⟨fun g => ?_, fun g => ⟨by omega, by omega, fun σ6 s6 => ?_⟩⟩⟩
                · refine nxt _ σ hi f xr xd xp (mx_rl_s g (xd _ v1 v2) xl) (fun z => ⟨(xz z).1, fun b b0 b1 => ?_⟩)
                  by_cases w : b = i
                  · rw [w]; exact g
                  · exact (xz z).2 b b0 (by omega)
                · have eo : ∀ p, p ≠ a → σ6 75 p = σ 75 p := fun p hp => by rw [s6, ml_up_i hp]
                  have en : σ6 75 a = W i + σ 75 (X a i) := by rw [s6, ml_up_same]
                  have w := W1 i i0 hi
                  have na : X a i ≠ a := fun e => by rw [e] at g; omega
                  obtain ⟨xr', le⟩ := mx_rr_set W1 hn P1 (by omega) a1 i0 hi rfl (by omega) eo en xr
                  have xd' := fun p p1 p2 => mx_rd_m (le p) (xd p p1 p2)
                  exact nxt _ σ6 hi (by rw [s6]; exact mt_f70_t f (mt_f70_up (by omega) (by omega))) xr' xd' (fun p p1 ap p2 => mx_rd_m (le p) (xp p p1 ap p2)) (mx_rl_s (by rw [en, eo _ na]; exact Int.le_refl _) (xd' _ v1 v2) (mx_rl_m (le a) xl)) (fun z => absurd z (by omega))
            exact I 10 0 ch σ (by omega) (by omega) (by omega) f xr xd xp (fun R G n b hb b0 b1 => by omega) (fun z => ⟨xz z, fun b b0 b1 => by omega⟩)
      exact A 950 y5 0 σ (by omega) (by omega) (by omega) f xr xd (fun p p1 ap p2 => by omega) (fun z p b p1 ap p2 => by omega)
  unfold f_X1_weighRests f_X1_weighRests_u0
  refine s_fill64 (by omega) (fun σ1 f1 x1 => ⟨by omega, by omega, fun σ2 s2 => ⟨950, ?_⟩⟩)
  have et : σ2 75 t = 0 := by rw [s2, ml_up_same]
  have eo : ∀ p, 0 ≤ p → p < 946 → p ≠ t → σ2 75 p = 1000000000000000000 := fun p p0 p1 h => by rw [s2, ml_up_i h]; exact x1 p p0 (by omega)
  refine R 950 1 0 σ2 (by omega) (by omega) (by omega) (fun j hj => by rw [s2, ml_up_k (by omega), f1 j (by omega)]) ⟨fun p p0 p1 => ?_, et, fun R G p p1 p2 => ?_⟩ (fun p p1 p2 R G n hn d => ?_) (fun z => absurd z (by omega))
  · by_cases z : p = t
    · rw [z, et]; omega
    · rw [eo p p0 p1 z]; omega
  · by_cases z : p = t
    · rw [z, et, G.1]; exact Int.le_refl 0
    · rw [eo p (by omega) (by omega) z]; exact (G.2.1 p p1 p2).2
  · have : n = 0 := by omega
    subst this
    rw [show p = t from d, et, G.1]; exact Int.le_refl 0
/-- the least index of the least -/
def mx_am (f : Int → Int) : Nat → Int
  | 0 => 0
  | n + 1 => if f ((n : Int) + 1) < f (mx_am f n) then (n : Int) + 1 else mx_am f n
theorem mx_am_s {f : Int → Int} (n : Nat) : mx_am f (n + 1) = if f ((n : Int) + 1) < f (mx_am f n) then (n : Int) + 1 else mx_am f n := rfl
theorem mx_am_p {f : Int → Int} : ∀ n : Nat, 0 ≤ mx_am f n ∧ mx_am f n ≤ n ∧ (∀ a : Int, 0 ≤ a → a ≤ n → f (mx_am f n) ≤ f a) ∧ ∀ a : Int, 0 ≤ a → a < mx_am f n → f (mx_am f n) < f a := by
  intro n
  induction n with
  | zero => exact ⟨Int.le_refl 0, Int.le_refl 0, fun a a0 a1 => by rw [show a = 0 by omega]; exact Int.le_refl _, fun a a0 a1 => by have : mx_am f 0 = 0 := rfl; omega⟩
  | succ n ih =>
    obtain ⟨i1, i2, i3, i4⟩ := ih
    rw [mx_am_s]
    by_cases z : f ((n : Int) + 1) < f (mx_am f n)
    · rw [if_pos z]
      refine ⟨by omega, by omega, fun a a0 a1 => ?_, fun a a0 a1 => ?_⟩
      · by_cases w : a = (n : Int) + 1
        · rw [w]; exact Int.le_refl _
        · have := i3 a a0 (by omega); omega
      · have := i3 a a0 (by omega); omega
    · rw [if_neg z]
      refine ⟨i1, by omega, fun a a0 a1 => ?_, i4⟩
      by_cases w : a = (n : Int) + 1
      · rw [w]; omega
      · exact i3 a a0 (by omega)
/-- the way by the best letters -/
def mx_pa (L : Int) (f nx : Int → Int → Int) : Nat → Int
  | 0 => 0
  | n + 1 => nx (mx_pa L f nx n) (mx_am (f (mx_pa L f nx n)) (L - 1).toNat)
def mx_b (L : Int) (f nx : Int → Int → Int) (n : Nat) : Int := mx_am (f (mx_pa L f nx n)) (L - 1).toNat
theorem mx_pa_s {L : Int} {f nx : Int → Int → Int} (n : Nat) : mx_pa L f nx (n + 1) = nx (mx_pa L f nx n) (mx_b L f nx n) := rfl
theorem mx_b_p {L : Int} {f nx : Int → Int → Int} (L1 : 1 ≤ L) (n : Nat) : 0 ≤ mx_b L f nx n ∧ mx_b L f nx n < L := by
  have := mx_am_p (f := f (mx_pa L f nx n)) (L - 1).toNat
  unfold mx_b; omega
def mx_sp (g : Nat → Int) : Nat → Int
  | 0 => 0
  | n + 1 => mx_sp g n + g n
def mx_f (W E : Int → Int) (nx : Int → Int → Int) (p a : Int) : Int := W a + E (nx p a)
/-- the class's answer: n letters by the weights E -/
def mx_cz (P L t : Int) (W : Int → Int) (nx : Int → Int → Int) (n : Nat) (E : Int → Int) : Prop := (∀ R, mx_bw P L t W nx R → ∀ p, 1 ≤ p → p < P → E p = R p) ∧ 1 ≤ n ∧ n ≤ 2838 ∧ (∀ j : Nat, 1 ≤ j → j < n → mx_pa L (mx_f W E nx) nx j ≠ t) ∧ (mx_pa L (mx_f W E nx) nx n = t ∨ n = 2838)
def mx_an (L : Int) (pr l W E : Int → Int) (nx : Int → Int → Int) (n : Nat) (x : Int) : Int := if x = -2 then mx_sp (fun j => pr (l (mx_b L (mx_f W E nx) nx j))) n else if x = -1 then (n : Int) else if 0 ≤ x ∧ x < n then l (mx_b L (mx_f W E nx) nx x.toNat) else -1
theorem s_findCheapest {Q : ml_St → Prop} {L P told t : Int} {pr W : Int → Int} {X : Int → Int → Int} {σ0 : ml_St} (L1 : 1 ≤ L) (L6 : L ≤ 6) (P0 : 1 ≤ P) (P1 : P ≤ 946) (t16 : told ≤ 16) (nx : mt_nx L P σ0) (lt : ∀ i, 0 ≤ i → i < L → 0 ≤ σ0 56 i ∧ σ0 56 i < told) (pd : ic_D pr σ0) (hW : ∀ i, W i = pr (σ0 56 i) * 1048576 + 1) (hX : ∀ p a, X p a = σ0 58 (6 * p + a)) (tc : t = -1 ∨ (1 ≤ t ∧ t < P)) (k0 : t = -1 → ∀ σ, mt_f70 σ0 σ → σ 70 5 = -1 → σ 70 6 = -1 → Q σ) (k : 1 ≤ t → t < P → ∀ σ (n : Nat) E, mt_f70 σ0 σ → mx_cz P L t W X n E → σ 70 5 = n → σ 70 6 = mx_sp (fun j => pr (σ0 56 (mx_b L (mx_f W E X) X j))) n → (∀ j : Nat, j < n → σ 74 j = σ0 56 (mx_b L (mx_f W E X) X j)) → Q σ) : f_X1_findCheapest σ0 t Q := by
  have pdk : ∀ {σ}, mt_f70 σ0 σ → ic_D pr σ := fun f w w0 w1 => by rw [f _ (by omega)]; exact pd w w0 w1
  unfold f_X1_findCheapest f_X1_findCheapest_u0
  intro σ1 s1 σ2 s2
  have f2 : mt_f70 σ0 σ2 := by rw [s2, s1]; exact mt_f70_t (mt_f70_up (by omega) (by omega)) (mt_f70_up (by omega) (by omega))
  refine ⟨fun c => ?_, fun c => k0 c σ2 f2 (by rw [s2, ml_up_i (by omega), s1, ml_up_same]) (by rw [s2, ml_up_same])⟩
  obtain ⟨t0, t1⟩ : 1 ≤ t ∧ t < P := by omega
  refine s_weighRests L1 L6 P0 P1 t16 (mt_nx_k f2 nx) (by rw [f2 56 (by omega)]; exact lt) (pdk f2) (by rw [f2 56 (by omega)]; exact hW) (by rw [f2 58 (by omega)]; exact hX) t0 t1 (fun σ4 f4 eb eR σ5 s5 σ6 s6 => ⟨2850, ?_⟩)
  generalize hE : σ4 75 = E at eb eR
  have kk := k t0 t1
  clear k k0
  have D : ∀ (N : Nat) (n : Nat) (σ : ml_St), 2838 - (n : Int) < N → n < 2838 → mt_f70 σ0 σ → σ 75 = E → σ 70 5 = n → σ 70 6 = mx_sp (fun j => pr (σ0 56 (mx_b L (mx_f W E X) X j))) n → 0 ≤ σ 70 6 → σ 70 6 ≤ 1000 * n → (∀ j : Nat, j < n → σ 74 j = σ0 56 (mx_b L (mx_f W E X) X j)) → (∀ j : Nat, 1 ≤ j → j < n + 1 → mx_pa L (mx_f W E X) X j ≠ t) → 0 ≤ mx_pa L (mx_f W E X) X n → mx_pa L (mx_f W E X) X n < P → f_X1_findCheapest_u36 Q (f_X1_findCheapest_u165 Q) N σ t (mx_pa L (mx_f W E X) X n) := by
    intro N
    induction N with
    | zero => intro n σ hN; omega
    | succ N ih =>
      intro n σ hN n1 f e75 z5 z6 z7 z8 z74 nt a0 a1
      generalize ha : mx_pa L (mx_f W E X) X n = a at a0 a1 ⊢
      unfold f_X1_findCheapest_u36
      refine ⟨10, ?_⟩
      have wb : ∀ (Q' : Int → ml_St → Prop) i, 0 ≤ i → i < L → Q' (mx_f W E X a i) σ → f_X1_weightBy σ a i Q' := fun Q' i i0 i1 hq => s_weightBy_x L6 P1 t16 (mt_nx_k f nx) (by rw [f 56 (by omega)]; exact lt) (pdk f) (by rw [e75]; exact eb) a0 a1 i0 i1 (by
        rw [f 56 (by omega), f 58 (by omega), ← hW, ← hX, e75]; exact hq)
      have I : ∀ (M : Nat) (i : Nat), (i : Int) < L → 6 - (i : Int) < M → f_X1_findCheapest_u42 Q (f_X1_findCheapest_u85 Q (f_X1_findCheapest_u36 Q (f_X1_findCheapest_u165 Q) N) (f_X1_findCheapest_u165 Q)) M σ t a (mx_am (mx_f W E X a) i) ((i : Int) + 1) := by
        intro M
        induction M with
        | zero => intro i i1 hM; omega
        | succ M ihM =>
          intro i i1 hM
          have am := mx_am_p (f := mx_f W E X a) i
          generalize hb : mx_am (mx_f W E X a) i = b at am ⊢
          obtain ⟨b0, b1, -, -⟩ := am
          unfold f_X1_findCheapest_u42
          rw [f 55 (by omega), nx.1]
          have nxt : ∀ b, (i : Int) + 1 < L → b = mx_am (mx_f W E X a) (i + 1) → f_X1_findCheapest_u79 Q (f_X1_findCheapest_u42 Q (f_X1_findCheapest_u85 Q (f_X1_findCheapest_u36 Q (f_X1_findCheapest_u165 Q) N) (f_X1_findCheapest_u165 Q)) M) σ t a b ((i : Int) + 1) := by
            intro b hi e
            unfold f_X1_findCheapest_u79
            refine ⟨mt_I (by omega) (by omega), fun y e2 => ?_⟩
            rw [e2, e]
            exact ihM (i + 1) (by omega) (by omega)
          refine fun _ => ⟨fun c => ?_, fun c => wb _ ((i : Int) + 1) (by omega) (by omega) (fun _ => wb _ b b0 (by omega) (fun _ => ⟨fun g => nxt b (by omega) ?_, fun g => nxt ((i : Int) + 1) (by omega) ?_⟩))⟩
          rotate_left
          · rw [mx_am_s, hb, if_neg (by omega)]
          · rw [mx_am_s, hb, if_pos (by omega)]
          have ei : i = (L - 1).toNat := by omega
          have eb' : b = mx_b L (mx_f W E X) X n := by unfold mx_b; rw [ha, ← ei, hb]
          have bL : b < L := by omega
          obtain ⟨l0, l1⟩ := lt b b0 bL
          obtain ⟨m1, m2, m3, m4⟩ := nx.2.2 a b a0 a1 b0 bL
          have hXb := hX a b
          rw [show 6 * a + b = a * 6 + b by omega] at m1 m2 hXb
          unfold f_X1_findCheapest_u85
          rw [f 56 (by omega), z5]
          refine fun _ => ⟨b0, by omega, fun _ => ⟨by omega, by omega, fun σ3 s3 => ?_⟩⟩
          have k3 : ∀ j, j ≠ 74 → σ3 j = σ j := fun j hj => by rw [s3, ml_up_k hj]
          have e74 : σ3 74 (n : Int) = σ0 56 b := by rw [s3, ml_up_same]
          rw [k3 70 (by omega), z5, e74]
          refine fun _ _ => ⟨by omega, by omega, fun _ => ⟨l0, by omega, ?_⟩⟩
          obtain ⟨d1, d2, d3⟩ := pd (σ0 56 b) l0 (by omega)
          rw [k3 _ (by omega), f _ (by omega), d1]
          refine fun _ => ⟨⟨by omega, by omega⟩, fun σ10 s10 => ?_⟩
          have e5 : σ10 70 5 = n := by rw [s10, ml_up_i (by omega), k3 70 (by omega), z5]
          rw [e5]
          refine fun _ => ⟨mt_I (by omega) (by omega), fun σ13 s13 => ⟨mt_I (by omega) (by omega), mt_I (by omega) (by omega), by omega, by omega, ?_⟩⟩
          have f13 : mt_f70 σ0 σ13 := by
            rw [s13, s10, s3]
            exact mt_f70_t f (mt_f70_t (mt_f70_t (mt_f70_up (by omega) (by omega)) (mt_f70_up (by omega) (by omega))) (mt_f70_up (by omega) (by omega)))
          have v5 : σ13 70 5 = ((n + 1 : Nat) : Int) := by rw [s13, ml_up_same]; omega
          have v6 : σ13 70 6 = σ 70 6 + pr (σ0 56 b) := by rw [s13, ml_up_i (by omega), s10, ml_up_same]
          have v6' : σ13 70 6 = mx_sp (fun j => pr (σ0 56 (mx_b L (mx_f W E X) X j))) (n + 1) := by
            rw [v6, z6, eb']; rfl
          have v75 : σ13 75 = E := by rw [s13, ml_up_k (by omega), s10, ml_up_k (by omega), k3 75 (by omega), e75]
          have v74 : ∀ j : Nat, j < n + 1 → σ13 74 j = σ0 56 (mx_b L (mx_f W E X) X j) := fun j hj => by
            rw [s13, ml_up_k (by omega), s10, ml_up_k (by omega), s3]
            by_cases w : j = n
            · rw [w, ml_up_same, eb']
            · rw [ml_up_i (by omega)]; exact z74 j (by omega)
          rw [f13 58 (by omega), v5, ← hXb]
          have pe : X a b = mx_pa L (mx_f W E X) X (n + 1) := by rw [mx_pa_s, ha, eb']
          rw [pe]
          rw [← hXb, pe] at m1 m2
          unfold f_X1_findCheapest_u165
          refine fun _ y17 e17 => ⟨fun c1 => kk σ13 (n + 1) E f13 ⟨eR, by omega, by omega, nt, Or.inl (by rw [← e17]; exact c1)⟩ v5 v6' v74, fun c1 _ => ⟨fun c2 => ?_, fun c2 => kk σ13 (n + 1) E f13 ⟨eR, by omega, by omega, nt, Or.inr (by omega)⟩ v5 v6' v74⟩⟩
          subst e17
          refine ih (n + 1) σ13 (by omega) (by omega) f13 v75 v5 v6' (by omega) (by omega) v74 (fun j j1 j2 => ?_) (by omega) m2
          by_cases w : j = n + 1
          · rw [w]; exact c1
          · exact nt j j1 (by omega)
      exact I 10 0 (by omega) (by omega)
  have f6 : mt_f70 σ0 σ6 := mt_f70_t f2 (mt_f70_t f4 (by rw [s6, s5]; exact mt_f70_t (mt_f70_up (by omega) (by omega)) (mt_f70_up (by omega) (by omega))))
  have w5 : σ6 70 5 = 0 := by rw [s6, ml_up_i (by omega), s5, ml_up_same]
  have w6 : σ6 70 6 = 0 := by rw [s6, ml_up_same]
  exact D 2850 0 σ6 (by omega) (by omega) f6 (by rw [s6, ml_up_k (by omega), s5, ml_up_k (by omega), hE]) w5 w6 (by omega) (by omega) (fun j hj => absurd hj (by omega)) (fun j h1 h2 => by omega) (Int.le_refl 0) P0
theorem c_cheapest {Q : Int → ml_St → Prop} {h told ts cap set w x : Int} {tb cl pr sz : Int → Int} {T : Int → Int → Int} {σ0 : ml_St} (i : IC h told ts cap tb cl pr sz T σ0) (k0 : ¬ (mt_ls told (mt_mk h T sz) set ∧ mt_md told (mt_mk h T sz) w ∧ -2 ≤ x) → Q (-1) σ0) (k1 : mt_ls told (mt_mk h T sz) set → mt_md told (mt_mk h T sz) w → -2 ≤ x → ∀ σ L P l S nx mo, IC h told ts cap tb cl pr sz T σ → (∀ j, 215 ≤ j → σ j = σ0 j) → ms_C h told (mt_mk h T sz) set L P l S nx mo → (∀ p, 1 ≤ p → p < P → ¬ mt_eq h (S p) (mt_mk h T sz w)) → Q (-1) σ) (k2 : mt_ls told (mt_mk h T sz) set → mt_md told (mt_mk h T sz) w → -2 ≤ x → ∀ σ L P l S nx mo t W (n : Nat) E, IC h told ts cap tb cl pr sz T σ → (∀ j, 215 ≤ j → σ j = σ0 j) → ms_C h told (mt_mk h T sz) set L P l S nx mo → 1 ≤ t → t < P → mt_eq h (S t) (mt_mk h T sz w) → (∀ i, W i = pr (l i) * 1048576 + 1) → mx_cz P L t W nx n E → Q (mx_an L pr l W E nx n x) σ) : f_X11_cheapest σ0 set w x Q := by
  have t16 := i.1.2.2.2.2.2
  unfold f_X11_cheapest f_X11_cheapest_u0
  unfold f_X11_cheapest_u22 f_X11_cheapest_u91
  refine c_isMade i (fun q _ => ⟨fun z => absurd z (by omega), fun _ => ⟨fun z => k0 (fun y => by omega), fun hx => s_openLetters i (fun no _ => ⟨fun z => absurd rfl z, fun _ => k0 (fun y => no y.1)⟩) (fun ls σ iσ g X eset f _ => ⟨fun _ => ⟨q.1, by have := q.2.1; omega, ?_⟩, fun z => absurd z (by omega)⟩)⟩⟩) (fun no _ => ⟨fun _ => k0 (fun y => no y.2.1), fun z => absurd rfl z⟩)
  have hx : -2 ≤ x := by omega
  have kk1 := k1 ls q hx
  have kk2 := k2 ls q hx
  clear k0 k1 k2
  obtain ⟨w1, w2, w3, w4⟩ := IC_w iσ q.1 q.2.1
  have h2 := iσ.1.2.2.1
  have h5 := iσ.1.2.2.2.1
  rw [iσ.1.1, show 119 + 6 * w + 2 = 121 + 6 * w by omega]
  have num := mt_num_lt h2 h5 w3
  refine fun _ => s_number h2 h5 w3 (mt_eq_wa w2).1 (fun _ => ⟨by omega, by omega, fun _ y10 e10 => ?_⟩)
  obtain ⟨g1, g2, g3, g4, g5, g6, g7, g8, g9, g10⟩ := id g
  have g6' := g6 (mt_num h (mt_mk h T sz w)) (by omega) (by omega)
  obtain ⟨S, Y, C⟩ := ms_C_i g X
  rw [eset] at C
  obtain ⟨y1, y2, y3, y4, y5⟩ := id Y
  have SM := y1.2.2.1
  have fin : ∀ σ11, mt_f70 σ σ11 → IC h told ts cap tb cl pr sz T σ11 ∧ ∀ j, 215 ≤ j → σ11 j = σ0 j := fun σ11 f11 => ⟨IC_kp (mt_f70_kp f11) iσ, fun j hj => by rw [f11 j (by omega), f j (by omega)]⟩
  refine s_findCheapest (told := told) (pr := pr) (W := fun i => pr (σ 56 i) * 1048576 + 1) (X := fun p a => σ 58 (6 * p + a)) g1 g2 g4 g5 t16 (ic_G_nx g) g3 iσ.2.2.2.1 (fun _ => rfl) (fun _ _ => rfl) (by omega) (fun e σ11 f11 z5 z6 => ?_) (fun t0 t1 σ11 n E f11 cz z5 z6 z74 => ?_)
  · obtain ⟨i11, fr⟩ := fin σ11 f11
    have no := kk1 σ11 _ _ _ _ _ _ i11 fr C (fun p p1 p2 eq => by
      have a := y4 p p1 p2
      rw [mt_num_e h2 h5 (SM p (by omega) p2) eq] at a
      omega)
    refine ⟨fun _ => s_answer_x (by omega) ?_, fun _ _ => by rw [z6]; exact no⟩
    rw [z5]
    by_cases w : x = -1
    · rw [if_pos w]; exact fun _ => no
    · rw [if_neg w, if_neg (by omega)]; exact fun _ => no
  · obtain ⟨i11, fr⟩ := fin σ11 f11
    have eqt : mt_eq h (S y10) (mt_mk h T sz w) := by
      have a := y5 (mt_num h (mt_mk h T sz w)) (by omega) (by omega) (by omega)
      rw [← e10] at a
      exact mt_num_inj h2 h5 (SM y10 (by omega) t1) w3 (by omega)
    have yes := kk2 σ11 _ _ _ _ _ _ y10 _ n E i11 fr C t0 t1 eqt (fun _ => rfl) cz
    unfold mx_an at yes
    have n2 := cz.2.2.1
    refine ⟨fun z => s_answer_x (by omega) ?_, fun z _ => ?_⟩
    · rw [if_neg z] at yes
      rw [z5]
      by_cases w : x = -1
      · rw [if_pos w] at yes ⊢; exact fun _ => yes
      · rw [if_neg w] at yes ⊢
        by_cases v : 0 ≤ x ∧ x < n
        · rw [if_pos v] at yes ⊢
          have := z74 x.toNat (by omega)
          rw [show ((x.toNat : Nat) : Int) = x by omega] at this
          rw [this]
          exact fun _ => yes
        · rw [if_neg v] at yes ⊢; exact fun _ => yes
    · rw [if_pos z] at yes
      rw [z6]; exact yes
/-! the model: what it keeps between calls -/
def im_A (h told : Int) (τ : ml_St) : Prop := τ 215 2 = h ∧ τ 215 3 = told ∧ 2 ≤ h ∧ h ≤ 5 ∧ 0 ≤ told ∧ told ≤ 16
def im_B (ts : Int) (tb : Int → Int) (τ : ml_St) : Prop := τ 215 1 = ts ∧ 0 ≤ ts ∧ ts ≤ 200 ∧ ∀ i, 0 ≤ i → i < ts → τ 216 i = tb i ∧ ml_I8 (tb i)
def im_C (h cap : Int) (cl : Int → Int) (τ : ml_St) : Prop := τ 215 4 = cap ∧ (cap = 0 ∨ cap = 1) ∧ mt_jv h τ cl ∧ mt_M h cl
def im_D (pr : Int → Int) (τ : ml_St) : Prop := ∀ w, 0 ≤ w → w < 16 → τ 220 w = pr w ∧ 1 ≤ pr w ∧ pr w ≤ 1000
def im_T (h : Int) (T : Int → Int → Int) (sz : Int → Int) (w : Int) (τ : ml_St) : Prop := mt_good h w (T w) (sz w) ∧ τ 219 w = sz w ∧ (∀ j, 0 ≤ j → j < sz w → τ 218 (100 * w + j) = T w j)
def im_N (h : Int) (T : Int → Int → Int) (sz : Int → Int) (w : Int) (τ : ml_St) : Prop := τ 221 w = min mt_top (mt_cn mt_sx T sz w) ∧ τ 222 w = min mt_top (mt_cn mt_su T sz w)
def im_W (h : Int) (T : Int → Int → Int) (sz : Int → Int) (w : Int) (τ : ml_St) : Prop := ∃ x, mt_mv h τ w x ∧ mt_M h x ∧ (mt_cn mt_one T sz w ≤ mt_mst → mt_weq h x (mt_mk h T sz w))
def im_E (h told : Int) (T : Int → Int → Int) (sz : Int → Int) (τ : ml_St) : Prop := ∀ w, 0 ≤ w → w < told → im_T h T sz w τ ∧ im_N h T sz w τ ∧ im_W h T sz w τ
def IM (h told ts cap : Int) (tb cl pr sz : Int → Int) (T : Int → Int → Int) (τ : ml_St) : Prop := im_A h told τ ∧ im_B ts tb τ ∧ im_C h cap cl τ ∧ im_D pr τ ∧ im_E h told T sz τ
/-- weaves of words stay -/
def mt_kw (τ τ' : ml_St) : Prop := ∀ m, 0 ≤ m → m < 16 → (∀ e, 0 ≤ e → e < 10 → τ' 227 (10 * m + e) = τ 227 (10 * m + e) ∧ τ' 228 (10 * m + e) = τ 228 (10 * m + e)) ∧ τ' 229 m = τ 229 m ∧ τ' 230 m = τ 230 m ∧ τ' 231 m = τ 231 m
def mt_kq (τ τ' : ml_St) : Prop := (∀ b, 1 ≤ b → b ≤ 4 → τ' 215 b = τ 215 b) ∧ (∀ j, 216 ≤ j → j ≤ 222 → τ' j = τ j) ∧ mt_kw τ τ' ∧ (∀ j, j < 215 → τ' j = τ j)
theorem mt_kw_r {τ : ml_St} : mt_kw τ τ := fun _ _ _ => ⟨fun _ _ _ => ⟨rfl, rfl⟩, rfl, rfl, rfl⟩
theorem mt_kw_t {τ τ1 τ2 : ml_St} (a : mt_kw τ τ1) (b : mt_kw τ1 τ2) : mt_kw τ τ2 := fun m m0 m1 => by
  obtain ⟨x1, x2, x3, x4⟩ := a m m0 m1
  obtain ⟨y1, y2, y3, y4⟩ := b m m0 m1
  exact ⟨fun e e0 e1 => ⟨(y1 e e0 e1).1.trans (x1 e e0 e1).1, (y1 e e0 e1).2.trans (x1 e e0 e1).2⟩, y2.trans x2, y3.trans x3, y4.trans x4⟩
theorem mt_kw_k {τ τ' : ml_St} (e1 : τ' 227 = τ 227) (e2 : τ' 228 = τ 228) (e3 : τ' 229 = τ 229) (e4 : τ' 230 = τ 230) (e5 : τ' 231 = τ 231) : mt_kw τ τ' := fun m _ _ => by rw [e1, e2, e3, e4, e5]; exact ⟨fun _ _ _ => ⟨rfl, rfl⟩, rfl, rfl, rfl⟩
theorem mt_kw_mv {h m : Int} {τ τ' : ml_St} {v : Int → Int} (h5 : h ≤ 5) (m0 : 0 ≤ m) (m1 : m < 16) (f : mt_kw τ τ') (w : mt_mv h τ m v) : mt_mv h τ' m v := by
  obtain ⟨x1, x2, x3, x4⟩ := f m m0 m1
  refine ⟨fun e e0 e1 => ?_, x2.trans w.2.1, x3.trans w.2.2.1, x4.trans w.2.2.2⟩
  exact ⟨(x1 e e0 (by omega)).1.trans (w.1 e e0 e1).1, (x1 e e0 (by omega)).2.trans (w.1 e e0 e1).2⟩
theorem mt_kw_mf {c : Int} {τ τ' : ml_St} (c16 : 16 ≤ c) (f : mt_mf c τ τ') : mt_kw τ τ' := fun m m0 m1 => ⟨fun e e0 e1 => f.2.2.1 _ (by omega), (f.2.2.2 m (by omega)).1, (f.2.2.2 m (by omega)).2.1, (f.2.2.2 m (by omega)).2.2⟩
theorem mt_kq_r {τ : ml_St} : mt_kq τ τ := ⟨fun _ _ _ => rfl, fun _ _ _ => rfl, mt_kw_r, fun _ _ => rfl⟩
theorem mt_kq_t {τ τ1 τ2 : ml_St} (a : mt_kq τ τ1) (b : mt_kq τ1 τ2) : mt_kq τ τ2 := ⟨fun c h1 h2 => by rw [b.1 c h1 h2, a.1 c h1 h2], fun j h1 h2 => by rw [b.2.1 j h1 h2, a.2.1 j h1 h2], mt_kw_t a.2.2.1 b.2.2.1, fun j hj => by rw [b.2.2.2 j hj, a.2.2.2 j hj]⟩
theorem mt_kq_mf {c : Int} {τ τ' : ml_St} (c16 : 16 ≤ c) (f : mt_mf c τ τ') : mt_kq τ τ' := ⟨fun b h1 h2 => f.2.1 b (by omega), fun j h1 h2 => f.1 j (by omega) (by omega) (by omega) (by omega) (by omega) (by omega) (by omega), mt_kw_mf c16 f, fun j hj => f.1 j (by omega) (by omega) (by omega) (by omega) (by omega) (by omega) (by omega)⟩
/-- other objects change alone -/
theorem mt_kq_o {τ τ' : ml_St} (f : ∀ j, j < 215 ∨ (216 ≤ j ∧ j ≤ 222) ∨ (227 ≤ j ∧ j ≤ 231) → τ' j = τ j) (b : ∀ b, 1 ≤ b → b ≤ 4 → τ' 215 b = τ 215 b) : mt_kq τ τ' := ⟨b, fun j h1 h2 => f j (by omega), mt_kw_k (f 227 (by omega)) (f 228 (by omega)) (f 229 (by omega)) (f 230 (by omega)) (f 231 (by omega)), fun j hj => f j (by omega)⟩
theorem IM_kq {h told ts cap : Int} {tb cl pr sz : Int → Int} {T : Int → Int → Int} {τ τ' : ml_St} (f : mt_kq τ τ') (i : IM h told ts cap tb cl pr sz T τ) : IM h told ts cap tb cl pr sz T τ' := by
  obtain ⟨a, b, c, d, e⟩ := i
  obtain ⟨fb, fj, fw, -⟩ := f
  obtain ⟨a1, a2, a3, h5, a5, t16⟩ := id a
  refine ⟨?_, ?_, ?_, ?_, fun w w0 w1 => ?_⟩
  · unfold im_A; rw [fb 2 (by omega) (by omega), fb 3 (by omega) (by omega)]; exact a
  · unfold im_B; rw [fb 1 (by omega) (by omega), fj 216 (by omega) (by omega)]; exact b
  · unfold im_C mt_jv; rw [fb 4 (by omega) (by omega), fj 217 (by omega) (by omega)]; exact c
  · unfold im_D; rw [fj 220 (by omega) (by omega)]; exact d
  · obtain ⟨x1, x2, x, x3, x4, x5⟩ := e w w0 w1
    refine ⟨?_, ?_, x, mt_kw_mv h5 w0 (by omega) fw x3, x4, x5⟩
    · unfold im_T; rw [fj 218 (by omega) (by omega), fj 219 (by omega) (by omega)]; exact x1
    · unfold im_N; rw [fj 221 (by omega) (by omega), fj 222 (by omega) (by omega)]; exact x2
theorem s_signsOf {Q : Int → ml_St → Prop} {w x y : Int} {τ : ml_St} (w0 : 0 ≤ w) (w1 : w < 16) (e1 : τ 221 w = min mt_top x) (e2 : τ 222 w = min mt_top y) (x0 : 0 ≤ x) (y0 : 0 ≤ y) (k : Q (min mt_top (x + y)) τ) : f_X12_signsOf τ w Q := by
  unfold f_X12_signsOf f_X12_signsOf_u0
  exact ⟨w0, w1, fun _ => ⟨w0, w1, fun _ => s_plus e1 e2 x0 y0 (fun _ _ => k)⟩⟩
theorem s_isTooLong12 {Q : Int → ml_St → Prop} {w x y : Int} {τ : ml_St} (w0 : 0 ≤ w) (w1 : w < 16) (e1 : τ 221 w = min mt_top x) (e2 : τ 222 w = min mt_top y) (x0 : 0 ≤ x) (y0 : 0 ≤ y) (k1 : mt_mst < x + y → Q 1 τ) (k0 : x + y ≤ mt_mst → Q 0 τ) : f_X12_isTooLong τ w Q := by
  unfold f_X12_isTooLong f_X12_isTooLong_u0
  unfold f_X12_isTooLong_u17
  refine s_signsOf w0 w1 e1 e2 x0 y0 (fun _ => ⟨fun c => k0 ?_, fun c => k1 ?_⟩)
  · unfold mt_mst mt_top at *; omega
  · unfold mt_mst mt_top at *; omega
/-- counts of a word whose TEXT stands in the store -/
theorem s_counts2 {Q : ml_St → Prop} {h w : Int} {T : Int → Int → Int} {sz : Int → Int} {τ0 : ml_St} (h5 : h ≤ 5) (w0 : 0 ≤ w) (w1 : w < 16) (tx : ∀ v, 0 ≤ v → v ≤ w → im_T h T sz v τ0) (nn : ∀ v, 0 ≤ v → v < w → im_N h T sz v τ0) (k : ∀ τ, (∀ j, j ≠ 215 → j ≠ 221 → j ≠ 222 → j ≠ 223 → j ≠ 224 → j ≠ 225 → j ≠ 226 → τ j = τ0 j) → (∀ b, b ≠ 19 → b ≠ 20 → τ 215 b = τ0 215 b) → (∀ v, v ≠ w → τ 221 v = τ0 221 v ∧ τ 222 v = τ0 222 v) → im_N h T sz w τ → Q τ) : f_X12_counts τ0 w Q := by
  obtain ⟨g, s1, s2⟩ := tx w w0 (Int.le_refl w)
  have et : mt_teq (sz w) (T w) (fun j => τ0 218 (100 * w + j)) := fun j j0 j1 => (s2 j j0 j1).symm
  have g' := mt_good_c et g
  have gd : ∀ v : Nat, v ≤ w.toNat → mt_good h v (T v) (sz v) := fun v hv => (tx v (by omega) (by omega)).1
  have c0 : ∀ (sg : Int → Int), (∀ c, 0 ≤ sg c) → ∀ v, 0 ≤ v → v < w → 0 ≤ mt_cn sg T sz v := fun sg s0 v v0 v1 => by
    have := mt_cn_0 (h := h) (T := T) (sz := sz) s0 v.toNat (by omega) (fun u hu => gd u (by omega))
    rw [show ((v.toNat : Nat) : Int) = v by omega] at this
    exact this
  have sx0 : ∀ c, 0 ≤ mt_sx c := fun c => by unfold mt_sx; split <;> omega
  have su0 : ∀ c, 0 ≤ mt_su c := fun c => by unfold mt_su; split <;> omega
  have ec : ∀ sg : Int → Int, mt_ctw (fun j => τ0 218 (100 * w + j)) (sz w) sg (mt_cn sg T sz) = mt_cn sg T sz w := fun sg => by
    have := mt_cn_e (h := h) (sg := sg) (T := T) (sz := sz) (w := w.toNat) (by omega) (by rw [show ((w.toNat : Nat) : Int) = w by omega]; exact g)
    rw [show ((w.toNat : Nat) : Int) = w by omega] at this
    rw [this]
    exact (mt_ct_t (h := h) (w := w) (by have := g.1; omega) et (fun _ _ _ => rfl) _ _ _ 1 _ (Int.le_refl 0) (by have := g.1; omega) g.2.2.2).symm
  refine s_counts (h := h) (cx := mt_cn mt_sx T sz) (cu := mt_cn mt_su T sz) w0 w1 h5 (by have := g.1; omega) g.2.1 s1 g'.2.2.1 g'.2.2.2 (fun v v0 v1 => ⟨c0 _ sx0 v v0 v1, (nn v v0 v1).1, c0 _ su0 v v0 v1, (nn v v0 v1).2⟩) (fun τ f1 f2 f3 f4 f5 => k τ f1 f2 f3 ⟨?_, ?_⟩)
  · rw [f4, ec]
  · rw [f5, ec]
theorem s_all {Q : ml_St → Prop} {h told : Int} {T : Int → Int → Int} {sz : Int → Int} {τ0 : ml_St} (a : im_A h told τ0) (tx : ∀ v, 0 ≤ v → v < told → im_T h T sz v τ0) (k : ∀ τ, (∀ j, (j < 215 ∨ (216 ≤ j ∧ j ≤ 220)) → τ j = τ0 j) → (∀ b, 1 ≤ b → b ≤ 4 → τ 215 b = τ0 215 b) → im_E h told T sz τ → Q τ) : f_X12_all τ0 Q := by
  obtain ⟨a1, a2, h2, h5, t0, t16⟩ := a
  have gd : ∀ v : Nat, (v : Int) < told → mt_good h v (T v) (sz v) := fun v hv => (tx v (by omega) (by omega)).1
  have L : ∀ (N : Nat) (w : Int) (τ : ml_St), 0 ≤ w → w ≤ told → told - w < N → (∀ j, (j < 215 ∨ (216 ≤ j ∧ j ≤ 220)) → τ j = τ0 j) → (∀ b, 1 ≤ b → b ≤ 4 → τ 215 b = τ0 215 b) → (∀ v, 0 ≤ v → v < w → im_N h T sz v τ ∧ im_W h T sz v τ) → f_X12_all_u2 Q (f_X12_all_u42 Q) N τ w := by
    intro N
    induction N with
    | zero => intro w τ w0 w1 hN; omega
    | succ N ih =>
      intro w τ w0 w1 hN f fb hv
      have e3 : τ 215 3 = told := by rw [fb 3 (by omega) (by omega), a2]
      have txτ : ∀ τ : ml_St, τ 218 = τ0 218 → τ 219 = τ0 219 → ∀ v, 0 ≤ v → v < told → im_T h T sz v τ := fun τ e1 e2 v v0 v1 => by unfold im_T; rw [e1, e2]; exact tx v v0 v1
      unfold f_X12_all_u2
      rw [e3]
      refine fun _ => ⟨fun c => ?_, fun c => ?_⟩
      · unfold f_X12_all_u42
        exact k τ f fb (fun v v0 v1 => ⟨txτ τ (f 218 (by omega)) (f 219 (by omega)) v v0 v1, hv v v0 (by omega)⟩)
      have hw : w < 16 := by omega
      refine s_counts2 h5 w0 hw (fun v v0 v1 => txτ τ (f 218 (by omega)) (f 219 (by omega)) v v0 (by omega)) (fun v v0 v1 => (hv v v0 v1).1) (fun τ1 f1 fb1 fv1 n1 => ?_)
      have tx1 := txτ τ1 (by rw [f1 218 (by omega) (by omega) (by omega) (by omega) (by omega) (by omega) (by omega), f 218 (by omega)]) (by rw [f1 219 (by omega) (by omega) (by omega) (by omega) (by omega) (by omega) (by omega), f 219 (by omega)])
      have sx0 : ∀ c, 0 ≤ mt_sx c := fun c => by unfold mt_sx; split <;> omega
      have su0 : ∀ c, 0 ≤ mt_su c := fun c => by unfold mt_su; split <;> omega
      have so0 : ∀ c, 0 ≤ mt_one c := fun c => by unfold mt_one; omega
      have cn0 : ∀ (sg : Int → Int), (∀ c, 0 ≤ sg c) → ∀ v, 0 ≤ v → v ≤ w → 0 ≤ mt_cn sg T sz v := fun sg s0 v v0 v1 => by
        have := mt_cn_0 (h := h) (T := T) (sz := sz) s0 v.toNat (by omega) (fun u hu => gd u (by omega))
        rw [show ((v.toNat : Nat) : Int) = v by omega] at this
        exact this
      have cad : mt_cn mt_one T sz w = mt_cn mt_sx T sz w + mt_cn mt_su T sz w := by
        have := mt_cn_add (h := h) (T := T) (sz := sz) w.toNat (by omega) (fun u hu => gd u (by omega))
        rw [show ((w.toNat : Nat) : Int) = w by omega] at this
        exact this
      have kw1 : mt_kw τ τ1 := mt_kw_k (f1 _ (by omega) (by omega) (by omega) (by omega) (by omega) (by omega) (by omega)) (f1 _ (by omega) (by omega) (by omega) (by omega) (by omega) (by omega) (by omega)) (f1 _ (by omega) (by omega) (by omega) (by omega) (by omega) (by omega) (by omega)) (f1 _ (by omega) (by omega) (by omega) (by omega) (by omega) (by omega) (by omega)) (f1 _ (by omega) (by omega) (by omega) (by omega) (by omega) (by omega) (by omega))
      have hv1 : ∀ v, 0 ≤ v → v < w → im_N h T sz v τ1 ∧ im_W h T sz v τ1 := fun v v0 v1 => by
        obtain ⟨y1, x, y2, y3, y4⟩ := hv v v0 v1
        refine ⟨?_, x, mt_kw_mv h5 v0 (by omega) kw1 y2, y3, y4⟩
        unfold im_N; rw [(fv1 v (by omega)).1, (fv1 v (by omega)).2]; exact y1
      have nx : ∀ τ', (∀ j, (j < 215 ∨ (216 ≤ j ∧ j ≤ 222)) → τ' j = τ1 j) → (∀ b, 1 ≤ b → b ≤ 4 → τ' 215 b = τ1 215 b) → (∀ v, 0 ≤ v → v < w → im_W h T sz v τ') → im_W h T sz w τ' → f_X12_all_u36 Q (f_X12_all_u2 Q (f_X12_all_u42 Q) N) τ' w := by
        intro τ' f' fb' hv' hw'
        unfold f_X12_all_u36
        refine ⟨mt_I (by omega) (by omega), fun y e => ?_⟩
        subst e
        refine ih (w + 1) τ' (by omega) (by omega) (by omega) (fun j hj => by rw [f' j (by omega), f1 j (by omega) (by omega) (by omega) (by omega) (by omega) (by omega) (by omega), f j hj]) (fun b b1 b2 => by rw [fb' b b1 b2, fb1 b (by omega) (by omega), fb b b1 b2]) (fun v v0 v1 => ?_)
        have nv : im_N h T sz v τ' := by
          unfold im_N; rw [f' 221 (by omega), f' 222 (by omega)]
          by_cases q : v = w
          · rw [q]; exact n1
          · exact (hv1 v v0 (by omega)).1
        by_cases q : v = w
        · refine ⟨nv, ?_⟩; rw [q]; exact hw'
        · exact ⟨nv, hv' v v0 (by omega)⟩
      have h1 : τ1 215 2 = h := by rw [fb1 2 (by omega) (by omega), fb 2 (by omega) (by omega), a1]
      refine s_isTooLong12 w0 hw n1.1 n1.2 (cn0 _ sx0 w w0 (Int.le_refl w)) (cn0 _ su0 w w0 (Int.le_refl w)) (fun big _ => ⟨fun z => absurd z (by omega), fun _ => ?_⟩) (fun sml _ => ⟨fun _ => ?_, fun z => absurd rfl z⟩)
      · refine s_straight h2 h5 ⟨w0, by omega⟩ h1 (fun τ2 f2 w2 => nx τ2 (fun j hj => f2.1 j (by omega) (by omega) (by omega) (by omega) (by omega) (by omega) (by omega)) (fun b b1 b2 => f2.2.1 b (by omega)) (fun v v0 v1 => ?_) ⟨_, w2, mt_str_M h5, fun z => by omega⟩)
        obtain ⟨-, x, y2, y3, y4⟩ := hv1 v v0 v1
        exact ⟨x, mt_mv_f h5 f2 (by omega) y2, y3, y4⟩
      · obtain ⟨g, s1, s2⟩ := tx1 w w0 (by omega)
        have et : mt_teq (sz w) (T w) (fun j => τ1 218 (100 * w + j)) := fun j j0 j1 => (s2 j j0 j1).symm
        have g' := mt_good_c et g
        have mko : ∀ v, 0 ≤ v → v < w → mt_M h (mt_mk h T sz v) ∧ mt_ok h (mt_mk h T sz v) := fun v v0 v1 => by
          have := mt_mk_ok (T := T) (sz := sz) h5 v.toNat (by omega) (fun u hu => gd u (by omega))
          rw [show ((v.toNat : Nat) : Int) = v by omega] at this
          exact this
        have ec : mt_ctw (fun j => τ1 218 (100 * w + j)) (sz w) mt_one (mt_cn mt_one T sz) = mt_cn mt_one T sz w := by
          have := mt_cn_e (h := h) (sg := mt_one) (T := T) (sz := sz) (w := w.toNat) (by omega) (by rw [show ((w.toNat : Nat) : Int) = w by omega]; exact g)
          rw [show ((w.toNat : Nat) : Int) = w by omega] at this
          rw [this]
          exact (mt_ct_t (h := h) (w := w) (by have := g.1; omega) et (fun _ _ _ => rfl) _ _ _ 1 _ (Int.le_refl 0) (by have := g.1; omega) g.2.2.2).symm
        have ew : mt_wo (fun j => τ1 218 (100 * w + j)) (sz w) h (mt_mk h T sz) = mt_mk h T sz w := by
          have := mt_mk_e (h := h) (T := T) (sz := sz) (w := w.toNat) (by omega) (by rw [show ((w.toNat : Nat) : Int) = w by omega]; exact g)
          rw [show ((w.toNat : Nat) : Int) = w by omega] at this
          rw [this]
          exact (mt_we_t (w := w) (by have := g.1; omega) et (fun _ _ _ => rfl) _ _ _ 1 _ (Int.le_refl 0) (by have := g.1; omega) g.2.2.2).symm
        refine s_makes (mk := mt_mk h T sz) (T := mt_cn mt_one T sz) w0 hw h2 h5 (by have := g.1; omega) g.2.1 h1 s1 g'.2.2.1 g'.2.2.2 (fun v v0 v1 => ⟨(mko v v0 v1).1, (mko v v0 v1).2, cn0 _ so0 v v0 (by omega), (hv1 v v0 v1).2⟩) (fun τ2 r f2 e20 w2 r2 q2 => ?_)
        rw [ec, ew] at q2
        have f2' : ∀ j, (j < 215 ∨ (216 ≤ j ∧ j ≤ 222)) → τ2 j = τ1 j := fun j hj => by
          have := f2.1 j (by omega) (by omega) (by omega) (by omega) (by omega) (by omega) (by omega)
          rw [ml_up_k (by omega)] at this
          exact this
        refine nx τ2 f2' (fun b b1 b2 => ?_) (fun v v0 v1 => ?_) ⟨r, w2, r2, q2⟩
        · have := f2.2.1 b (by omega) (by omega)
          rw [ml_up_i (by omega)] at this
          exact this
        · obtain ⟨-, x, y2, y3, y4⟩ := hv1 v v0 v1
          have := mt_mv_p h5 f2 (by omega) y2
          refine ⟨x, ?_, y3, y4⟩
          unfold mt_mv at this ⊢
          rw [ml_up_k (by omega), ml_up_k (by omega), ml_up_k (by omega), ml_up_k (by omega), ml_up_k (by omega)] at this
          exact this
  unfold f_X12_all f_X12_all_u0
  exact ⟨20, L 20 0 τ0 (by omega) t0 (by omega) (fun _ _ => rfl) (fun _ _ _ => rfl) (fun v v0 v1 => absurd v1 (by omega))⟩
/-! the model: told, word, change -/
theorem IM_T {h told ts cap : Int} {tb cl pr sz : Int → Int} {T : Int → Int → Int} {τ : ml_St} (i : IM h told ts cap tb cl pr sz T τ) : ∀ v : Nat, (v : Int) < told → mt_good h v (T v) (sz v) := fun v hv => (i.2.2.2.2 v (by omega) hv).1.1
theorem s_lies {Q : Int → ml_St → Prop} {x a b : Int} {τ : ml_St} (k1 : a ≤ x → x ≤ b → Q 1 τ) (k0 : ¬ (a ≤ x ∧ x ≤ b) → Q 0 τ) : f_X12_lies τ x a b Q := by
  unfold f_X12_lies f_X12_lies_u0
  unfold f_X12_lies_u17 f_X12_lies_u18
  exact ⟨fun c => k0 (by omega), fun c => ⟨fun d => k0 (by omega), fun d => k1 (by omega) (by omega)⟩⟩
theorem s_isWord {Q : Int → ml_St → Prop} {w told : Int} {τ : ml_St} (t0 : 0 ≤ told) (t16 : told ≤ 16) (e : τ 215 3 = told) (k1 : 0 ≤ w → w < told → Q 1 τ) (k0 : ¬ (0 ≤ w ∧ w < told) → Q 0 τ) : f_X12_isWord τ w Q := by
  unfold f_X12_isWord f_X12_isWord_u0
  rw [e]
  exact fun _ => ⟨mt_I (by omega) (by omega), s_lies (fun a b _ => k1 a (by omega)) (fun c _ => k0 (fun z => c ⟨z.1, by omega⟩))⟩
theorem s_takesText {Q : ml_St → Prop} {w n : Int} {τ0 : ml_St} (w0 : 0 ≤ w) (w1 : w < 16) (n0 : 0 ≤ n) (n1 : n ≤ 100) (k : ∀ τ, (∀ j, j ≠ 218 → j ≠ 219 → τ j = τ0 j) → (∀ v, v ≠ w → τ 219 v = τ0 219 v) → τ 219 w = n → (∀ x, (x < 100 * w ∨ 100 * w + n ≤ x) → τ 218 x = τ0 218 x) → (∀ j, 0 ≤ j → j < n → τ 218 (100 * w + j) = τ0 216 j) → Q τ) : f_X12_takesText τ0 w n Q := by
  unfold f_X12_takesText f_X12_takesText_u0
  refine ⟨w0, w1, fun σ1 s1 => ⟨101, ?_⟩⟩
  have L : ∀ (N : Nat) (i : Int) (τ : ml_St), 0 ≤ i → i ≤ n → n - i < N → (∀ j, j ≠ 218 → τ j = σ1 j) → (∀ x, (x < 100 * w ∨ 100 * w + i ≤ x) → τ 218 x = τ0 218 x) → (∀ j, 0 ≤ j → j < i → τ 218 (100 * w + j) = τ0 216 j) → f_X12_takesText_u9 Q (f_X12_takesText_u37 Q) N τ w n i := by
    intro N
    induction N with
    | zero => intro i τ i0 i1 hN; omega
    | succ N ih =>
      intro i τ i0 i1 hN f lo hi
      unfold f_X12_takesText_u9
      refine ⟨fun c => ?_, fun c => ⟨mt_I (by omega) (by omega), mt_I (by omega) (by omega), i0, by omega, fun _ => ⟨by omega, by omega, fun σ5 s5 => ⟨mt_I (by omega) (by omega), fun y e => ?_⟩⟩⟩⟩
      · have : i = n := by omega
        subst this
        unfold f_X12_takesText_u37
        exact k τ (fun j h1 h2 => by rw [f j h1, s1, ml_up_k h2]) (fun v hv => by rw [f 219 (by omega), s1, ml_up_i hv]) (by rw [f 219 (by omega), s1, ml_up_same]) lo hi
      · subst e
        refine ih (i + 1) σ5 (by omega) (by omega) (by omega) (fun j hj => by rw [s5, ml_up_k hj, f j hj]) (fun x hx => by rw [s5, ml_up_i (by omega)]; exact lo x (by omega)) (fun j j0 j1 => ?_)
        rw [s5]
        by_cases q : j = i
        · rw [q, ml_up_same, f 216 (by omega), s1, ml_up_k (by omega)]
        · rw [ml_up_i (by omega)]; exact hi j j0 (by omega)
  exact L 101 0 σ1 (by omega) n0 (by omega) (fun _ _ => rfl) (fun x _ => by rw [s1, ml_up_k (by omega)]) (fun j j0 j1 => absurd j1 (by omega))
/-- copying a text there and back -/
theorem s_told29 {Q : Int → ml_St → Prop} {K : ml_St → Int → Int → Int → Prop} {w n m : Int} {τ0 : ml_St} (w0 : 0 ≤ w) (w1 : w < 16) (m0 : 0 ≤ m) (m1 : m ≤ 100) (k : ∀ τ, (∀ j, j ≠ 233 → τ j = τ0 j) → (∀ j, 0 ≤ j → j < m → τ 233 j = τ0 218 (100 * w + j)) → K τ w n m) : ∀ (N : Nat) (i : Int) (τ : ml_St), 0 ≤ i → i ≤ m → m - i < N → (∀ j, j ≠ 233 → τ j = τ0 j) → (∀ j, 0 ≤ j → j < i → τ 233 j = τ0 218 (100 * w + j)) → f_X12_told_u29 Q K N τ w n m i := by
  intro N
  induction N with
  | zero => intro i τ i0 i1 hN; omega
  | succ N ih =>
    intro i τ i0 i1 hN f hi
    unfold f_X12_told_u29
    refine ⟨fun c => k τ f (fun j j0 j1 => hi j j0 (by omega)), fun c => ⟨mt_I (by omega) (by omega), mt_I (by omega) (by omega), by omega, by omega, fun _ => ⟨i0, by omega, fun σ5 s5 => ⟨mt_I (by omega) (by omega), fun y e => ?_⟩⟩⟩⟩
    subst e
    refine ih (i + 1) σ5 (by omega) (by omega) (by omega) (fun j hj => by rw [s5, ml_up_k hj, f j hj]) (fun j j0 j1 => ?_)
    rw [s5]
    by_cases q : j = i
    · rw [q, ml_up_same, f 218 (by omega)]
    · rw [ml_up_i q]; exact hi j j0 (by omega)
theorem s_told91 {Q : Int → ml_St → Prop} {K : ml_St → Int → Int → Int → Prop} {w n m : Int} {τ0 : ml_St} (w0 : 0 ≤ w) (w1 : w < 16) (m0 : 0 ≤ m) (m1 : m ≤ 100) (k : ∀ τ, (∀ j, j ≠ 218 → τ j = τ0 j) → (∀ x, (x < 100 * w ∨ 100 * w + m ≤ x) → τ 218 x = τ0 218 x) → (∀ j, 0 ≤ j → j < m → τ 218 (100 * w + j) = τ0 233 j) → K τ w n m) : ∀ (N : Nat) (i : Int) (τ : ml_St), 0 ≤ i → i ≤ m → m - i < N → (∀ j, j ≠ 218 → τ j = τ0 j) → (∀ x, (x < 100 * w ∨ 100 * w + i ≤ x) → τ 218 x = τ0 218 x) → (∀ j, 0 ≤ j → j < i → τ 218 (100 * w + j) = τ0 233 j) → f_X12_told_u91 Q K N τ w n m i := by
  intro N
  induction N with
  | zero => intro i τ i0 i1 hN; omega
  | succ N ih =>
    intro i τ i0 i1 hN f lo hi
    unfold f_X12_told_u91
    refine ⟨fun c => ?_, fun c => ⟨mt_I (by omega) (by omega), mt_I (by omega) (by omega), i0, by omega, fun _ => ⟨by omega, by omega, fun σ5 s5 => ⟨mt_I (by omega) (by omega), fun y e => ?_⟩⟩⟩⟩
    · have : i = m := by omega
      subst this
      exact k τ f lo hi
    subst e
    refine ih (i + 1) σ5 (by omega) (by omega) (by omega) (fun j hj => by rw [s5, ml_up_k hj, f j hj]) (fun x hx => by rw [s5, ml_up_i (by omega)]; exact lo x (by omega)) (fun j j0 j1 => ?_)
    rw [s5]
    by_cases q : j = i
    · rw [q, ml_up_same, f 233 (by omega)]
    · rw [ml_up_i (by omega)]; exact hi j j0 (by omega)
/-- told: fault, too long, or done (the texts alone are then in place) -/
theorem s_told {Q : Int → ml_St → Prop} {h told ts cap w n m : Int} {tb cl pr sz : Int → Int} {T : Int → Int → Int} {τ0 : ml_St} (a : im_A h told τ0) (b : im_B ts tb τ0) (c : im_C h cap cl τ0) (d : im_D pr τ0) (e : im_E h told T sz τ0) (w0 : 0 ≤ w) (w1 : w ≤ told) (w16 : w < 16) (n1 : 1 ≤ n) (n100 : n ≤ 100) (nt : n ≤ ts) (em : τ0 219 w = m) (m0 : if w < told then m = sz w else m = 0)
    (k2 : mt_fl h w n tb ≠ 0 → mt_fl h w n tb < 0 → ∀ τ, IM h told 0 cap tb cl pr sz T τ → (∀ j, j < 215 → τ j = τ0 j) → Q (mt_fl h w n tb) τ)
    (k3 : mt_fl h w n tb = 0 → mt_mst < mt_ctw tb n mt_one (mt_cn mt_one T sz) → ∀ τ, IM h told 0 cap tb cl pr sz T τ → (∀ j, j < 215 → τ j = τ0 j) → Q (-5000 - n) τ)
    (k4 : mt_fl h w n tb = 0 → mt_ctw tb n mt_one (mt_cn mt_one T sz) ≤ mt_mst → ∀ τ, (∀ j, (j < 215 ∨ j = 216 ∨ j = 217 ∨ j = 220) → τ j = τ0 j) → (∀ x, 2 ≤ x → x ≤ 4 → τ 215 x = τ0 215 x) → τ 215 1 = 0 → (∀ v, 0 ≤ v → v < max told (w + 1) → im_T h (mt_sT T w tb) (mt_st sz w n) v τ) → Q 0 τ) : f_X12_told τ0 w n Q := by
  obtain ⟨a1, a2, h2, h5, t0, t16⟩ := a
  obtain ⟨b1, b2, b3, b4⟩ := b
  have mr : 0 ≤ m ∧ m ≤ 100 := by
    by_cases q : w < told
    · rw [if_pos q] at m0
      have := (e w w0 q).1.1
      have := this.1; have := (e w w0 q).1.1.2.1; omega
    · rw [if_neg q] at m0; omega
  unfold f_X12_told f_X12_told_u0
  intro σ1 s1
  have k1' : ∀ j, j ≠ 215 → σ1 j = τ0 j := fun j hj => by rw [s1, ml_up_k hj]
  have tI : ∀ i, 0 ≤ i → i < n → ml_I8 (σ1 216 i) := fun i i0 i1 => by rw [k1' 216 (by omega), (b4 i i0 (by omega)).1]; exact (b4 i i0 (by omega)).2
  have et : mt_teq n (σ1 216) tb := fun j j0 j1 => by rw [k1' 216 (by omega)]; exact (b4 j j0 (by omega)).1
  have eg : mt_gr (σ1 216) n h w (n.toNat + 1) 0 0 1 = mt_fl h w n tb := mt_gr_t et _ _ _ _ (Int.le_refl 0)
  -- an empty tape, and nothing else of note changed
  have emp : ∀ τ, (∀ j, (j < 215 ∨ (216 ≤ j ∧ j ≤ 222) ∨ (227 ≤ j ∧ j ≤ 231)) → τ j = τ0 j) → (∀ x, 2 ≤ x → x ≤ 4 → τ 215 x = τ0 215 x) → τ 215 1 = 0 → IM h told 0 cap tb cl pr sz T τ := by
    intro τ f fb z
    refine ⟨⟨by rw [fb 2 (by omega) (by omega), a1], by rw [fb 3 (by omega) (by omega), a2], h2, h5, t0, t16⟩, ⟨z, by omega, by omega, fun i i0 i1 => absurd i1 (by omega)⟩, ?_, ?_, fun v v0 v1 => ?_⟩
    · unfold im_C mt_jv; rw [fb 4 (by omega) (by omega), f 217 (by omega)]; exact c
    · unfold im_D; rw [f 220 (by omega)]; exact d
    · obtain ⟨x1, x2, x, x3, x4, x5⟩ := e v v0 v1
      refine ⟨?_, ?_, x, ?_, x4, x5⟩
      · unfold im_T; rw [f 218 (by omega), f 219 (by omega)]; exact x1
      · unfold im_N; rw [f 221 (by omega), f 222 (by omega)]; exact x2
      · unfold mt_mv; rw [f 227 (by omega), f 228 (by omega), f 229 (by omega), f 230 (by omega), f 231 (by omega)]; exact x3
  refine s_isText (by omega) n100 h2 h5 w0 (by omega) (by rw [s1, ml_up_i (by omega), a1]) tI (fun i' d' => ?_)
  rw [eg]
  have ems : ∀ j, j ≠ 215 → mt_ms σ1 i' n (mt_fl h w n tb) d' j = τ0 j := fun j hj => by rw [mt_ms_k hj, k1' j hj]
  have eb : ∀ x, 1 ≤ x → x ≤ 4 → mt_ms σ1 i' n (mt_fl h w n tb) d' 215 x = σ1 215 x := fun x x1 x4 => by
    unfold mt_ms; rw [if_pos rfl, if_neg (by omega), if_neg (by omega), if_neg (by omega), if_neg (by omega)]
  have eb2 : ∀ x, 2 ≤ x → x ≤ 4 → mt_ms σ1 i' n (mt_fl h w n tb) d' 215 x = τ0 215 x := fun x x1 x4 => by rw [eb x (by omega) x4, s1, ml_up_i (by omega)]
  have eb1 : mt_ms σ1 i' n (mt_fl h w n tb) d' 215 1 = 0 := by rw [eb 1 (by omega) (by omega), s1, ml_up_same]
  by_cases z : mt_fl h w n tb = 0
  · rw [if_pos z]
    refine fun _ => ⟨fun _ => ⟨w0, w16, ?_⟩, fun y => absurd y (by omega)⟩
    rw [ems 219 (by omega), em]
    intro _ y5 e5
    subst e5
    generalize hσ2 : mt_ms σ1 i' n (mt_fl h w n tb) d' = σ2 at *
    refine ⟨y5.toNat + 1, s_told29 w0 w16 mr.1 mr.2 (fun σ3 f3 h3 => ?_) _ 0 σ2 (by omega) mr.1 (by omega) (fun _ _ => rfl) (fun j j0 j1 => absurd j1 (by omega))⟩
    unfold f_X12_told_u60
    refine s_takesText w0 w16 (by omega) n100 (fun σ4 f4 g4 q4 lo4 hi4 => ?_)
    have f4' : ∀ j, j ≠ 215 → j ≠ 218 → j ≠ 219 → j ≠ 233 → σ4 j = τ0 j := fun j x1 x2 x3 x4 => by rw [f4 j x2 x3, f3 j x4, ems j x1]
    have lo4' : ∀ x, (x < 100 * w ∨ 100 * w + n ≤ x) → σ4 218 x = τ0 218 x := fun x hx => by rw [lo4 x hx, f3 218 (by omega), ems 218 (by omega)]
    have t4 : ∀ j, 0 ≤ j → j < n → σ4 218 (100 * w + j) = tb j := fun j j0 j1 => by rw [hi4 j j0 j1, f3 216 (by omega), ems 216 (by omega)]; exact (b4 j j0 (by omega)).1
    have gw : mt_good h w tb n := ⟨n1, n100, fun j j0 j1 => (b4 j j0 (by omega)).2, z⟩
    have sw : mt_sT T w tb w = tb ∧ mt_st sz w n w = n := ⟨if_pos rfl, if_pos rfl⟩
    have ne : ∀ v, v ≠ w → mt_sT T w tb v = T v ∧ mt_st sz w n v = sz v := fun v hv => ⟨if_neg hv, if_neg hv⟩
    have tx4 : ∀ v, 0 ≤ v → v < max told (w + 1) → im_T h (mt_sT T w tb) (mt_st sz w n) v σ4 := by
      intro v v0 v1
      by_cases q : v = w
      · subst q
        unfold im_T
        rw [sw.1, sw.2]
        exact ⟨gw, q4, t4⟩
      · obtain ⟨y1, y2, y3⟩ := (e v v0 (by omega)).1
        unfold im_T
        rw [(ne v q).1, (ne v q).2]
        refine ⟨y1, by rw [g4 v q, f3 219 (by omega), ems 219 (by omega), y2], fun j j0 j1 => ?_⟩
        have := y1.2.1
        rw [lo4' _ (by omega)]
        exact y3 j j0 j1
    have cn_lo : ∀ sg : Int → Int, ∀ v, 0 ≤ v → v < w → mt_cn sg (mt_sT T w tb) (mt_st sz w n) v = mt_cn sg T sz v := by
      intro sg v v0 v1
      have key : ∀ u : Nat, (u : Int) ≤ w → mt_cf sg (mt_sT T w tb) (mt_st sz w n) u = mt_cf sg T sz u := by
        intro u
        induction u with
        | zero => intro _; rfl
        | succ u ih =>
          intro hu
          unfold mt_cf
          rw [ih (by omega), (ne u (by omega)).1, (ne u (by omega)).2]
      unfold mt_cn
      rw [mt_cf_lo (v.toNat + 1) 16 v (by omega) (by omega), mt_cf_lo (v.toNat + 1) 16 v (by omega) (by omega), key (v.toNat + 1) (by omega)]
    have cw : ∀ sg : Int → Int, mt_cn sg (mt_sT T w tb) (mt_st sz w n) w = mt_ctw tb n sg (mt_cn sg T sz) := by
      intro sg
      have := mt_cn_e (h := h) (sg := sg) (T := mt_sT T w tb) (sz := mt_st sz w n) (w := w.toNat) (by omega) (by rw [show ((w.toNat : Nat) : Int) = w by omega, sw.1, sw.2]; exact gw)
      rw [show ((w.toNat : Nat) : Int) = w by omega, sw.1, sw.2] at this
      rw [this]
      exact mt_ct_t (h := h) (w := w) (by omega) (fun _ _ _ => rfl) (cn_lo sg) _ _ _ 1 _ (Int.le_refl 0) (by omega) z
    refine s_counts2 (T := mt_sT T w tb) (sz := mt_st sz w n) h5 w0 w16 (fun v v0 v1 => tx4 v v0 (by omega)) (fun v v0 v1 => ?_) (fun σ5 f5 fb5 fv5 n5 => ?_)
    · unfold im_N
      rw [f4' 221 (by omega) (by omega) (by omega) (by omega), f4' 222 (by omega) (by omega) (by omega) (by omega), cn_lo _ v v0 v1, cn_lo _ v v0 v1]
      exact (e v v0 (by omega)).2.1
    have gd : ∀ v : Nat, v ≤ w.toNat → mt_good h v (mt_sT T w tb v) (mt_st sz w n v) := fun v hv => (tx4 v (by omega) (by omega)).1
    have sx0 : ∀ c, 0 ≤ mt_sx c := fun c => by unfold mt_sx; split <;> omega
    have su0 : ∀ c, 0 ≤ mt_su c := fun c => by unfold mt_su; split <;> omega
    have c0 : ∀ (sg : Int → Int), (∀ c, 0 ≤ sg c) → 0 ≤ mt_cn sg (mt_sT T w tb) (mt_st sz w n) w := fun sg s0 => by
      have := mt_cn_0 (h := h) (T := mt_sT T w tb) (sz := mt_st sz w n) s0 w.toNat (by omega) gd
      rw [show ((w.toNat : Nat) : Int) = w by omega] at this
      exact this
    have cad : mt_cn mt_one (mt_sT T w tb) (mt_st sz w n) w = mt_cn mt_sx (mt_sT T w tb) (mt_st sz w n) w + mt_cn mt_su (mt_sT T w tb) (mt_st sz w n) w := by
      have := mt_cn_add (h := h) (T := mt_sT T w tb) (sz := mt_st sz w n) w.toNat (by omega) gd
      rw [show ((w.toNat : Nat) : Int) = w by omega] at this
      exact this
    rw [cw mt_one] at cad
    have f5' : ∀ j, j ≠ 215 → j ≠ 221 → j ≠ 222 → (j < 223 ∨ 226 < j) → σ5 j = σ4 j := fun j x1 x2 x3 x4 => f5 j x1 x2 x3 (by omega) (by omega) (by omega) (by omega)
    have b5 : ∀ x, 1 ≤ x → x ≤ 4 → σ5 215 x = σ2 215 x := fun x x1 x4 => by rw [fb5 x (by omega) (by omega), f4 215 (by omega) (by omega), f3 215 (by omega)]
    refine s_isTooLong12 w0 w16 n5.1 n5.2 (c0 _ sx0) (c0 _ su0) (fun big _ => ⟨fun _ => ⟨w0, w16, fun σ6 s6 => ?_⟩, fun y => absurd y (by omega)⟩) (fun sml _ => ⟨fun y => absurd rfl y, fun _ => ?_⟩)
    · -- too long: all back
      refine ⟨y5.toNat + 1, s_told91 w0 w16 mr.1 mr.2 (fun σ7 f7 lo7 hi7 => ?_) _ 0 σ6 (by omega) mr.1 (by omega) (fun _ _ => rfl) (fun _ _ => rfl) (fun j j0 j1 => absurd j1 (by omega))⟩
      have k6 : ∀ j, j ≠ 219 → σ6 j = σ5 j := fun j hj => by rw [s6, ml_up_k hj]
      have f7' : ∀ j, j ≠ 215 → j ≠ 218 → j ≠ 219 → j ≠ 221 → j ≠ 222 → (j < 223 ∨ (226 < j ∧ j ≠ 233)) → σ7 j = τ0 j := fun j x1 x2 x3 x4 x5 x6 => by
        rw [f7 j x2, k6 j x3, f5' j x1 x4 x5 (by omega), f4' j x1 x2 x3 (by omega)]
      have b7 : ∀ x, 1 ≤ x → x ≤ 4 → σ7 215 x = σ2 215 x := fun x x1 x4 => by rw [f7 215 (by omega), k6 215 (by omega), b5 x x1 x4]
      have v7 : ∀ v, σ7 219 v = if v = w then y5 else τ0 219 v := fun v => by
        rw [f7 219 (by omega), s6]
        by_cases q : v = w
        · rw [if_pos q, q, ml_up_same]
        · rw [if_neg q, ml_up_i q, f5' 219 (by omega) (by omega) (by omega) (by omega), g4 v q, f3 219 (by omega), ems 219 (by omega)]
      have x7 : ∀ v, 0 ≤ v → v < told → im_T h T sz v σ7 := by
        intro v v0 v1
        obtain ⟨y1, y2, y3⟩ := (e v v0 v1).1
        have y12 := y1.2.1
        refine ⟨y1, ?_, fun j j0 j1 => ?_⟩
        · rw [v7]
          by_cases q : v = w
          · subst q
            rw [if_pos v1] at m0
            rw [if_pos rfl]; exact m0
          · rw [if_neg q]; exact y2
        · by_cases q : v = w
          · subst q
            rw [if_pos v1] at m0
            rw [hi7 j j0 (by omega), k6 233 (by omega), f5' 233 (by omega) (by omega) (by omega) (by omega), f4 233 (by omega) (by omega), h3 j j0 (by omega), ems 218 (by omega)]
            exact y3 j j0 j1
          · rw [lo7 _ (by omega), k6 218 (by omega), f5' 218 (by omega) (by omega) (by omega) (by omega), lo4' _ (by omega)]
            exact y3 j j0 j1
      have n7 : ∀ v, 0 ≤ v → v < told → v ≠ w → im_N h T sz v σ7 := by
        intro v v0 v1 vw
        unfold im_N
        rw [f7 221 (by omega), f7 222 (by omega), k6 221 (by omega), k6 222 (by omega), (fv5 v vw).1, (fv5 v vw).2, f4' 221 (by omega) (by omega) (by omega) (by omega), f4' 222 (by omega) (by omega) (by omega) (by omega)]
        exact (e v v0 v1).2.1
      have IMof : ∀ τ, (∀ j, (j < 215 ∨ (216 ≤ j ∧ j ≤ 220) ∨ (227 ≤ j ∧ j ≤ 231)) → τ j = σ7 j) → (∀ x, 1 ≤ x → x ≤ 4 → τ 215 x = σ7 215 x) → (∀ v, 0 ≤ v → v < told → im_N h T sz v τ) → IM h told 0 cap tb cl pr sz T τ := by
        intro τ f fb hn
        have fj : ∀ j, (j < 215 ∨ j = 216 ∨ j = 217 ∨ j = 220 ∨ (227 ≤ j ∧ j ≤ 231)) → τ j = τ0 j := fun j hj => by rw [f j (by omega), f7' j (by omega) (by omega) (by omega) (by omega) (by omega) (by omega)]
        have fb' : ∀ x, 2 ≤ x → x ≤ 4 → τ 215 x = τ0 215 x := fun x x2 x4 => by rw [fb x (by omega) x4, b7 x (by omega) x4, eb2 x x2 x4]
        refine ⟨⟨by rw [fb' 2 (by omega) (by omega), a1], by rw [fb' 3 (by omega) (by omega), a2], h2, h5, t0, t16⟩, ⟨by rw [fb 1 (by omega) (by omega), b7 1 (by omega) (by omega), eb1], by omega, by omega, fun i i0 i1 => absurd i1 (by omega)⟩, ?_, ?_, fun v v0 v1 => ?_⟩
        · unfold im_C mt_jv; rw [fb' 4 (by omega) (by omega), fj 217 (by omega)]; exact c
        · unfold im_D; rw [fj 220 (by omega)]; exact d
        · obtain ⟨-, -, x, x3, x4, x5⟩ := e v v0 v1
          refine ⟨?_, hn v v0 v1, x, ?_, x4, x5⟩
          · unfold im_T; rw [f 218 (by omega), f 219 (by omega)]; exact x7 v v0 v1
          · unfold mt_mv; rw [fj 227 (by omega), fj 228 (by omega), fj 229 (by omega), fj 230 (by omega), fj 231 (by omega)]; exact x3
      have bigc : mt_mst < mt_ctw tb n mt_one (mt_cn mt_one T sz) := by omega
      unfold f_X12_told_u122
      refine ⟨fun y => ?_, fun y => ?_⟩
      · unfold f_X12_told_u131
        have wt : ¬ w < told := fun q => by
          rw [if_pos q] at m0
          have := (e w w0 q).1.1.1
          omega
        exact ⟨mt_I (by omega) (by omega), k3 z bigc σ7 (IMof σ7 (fun _ _ => rfl) (fun _ _ _ => rfl) (fun v v0 v1 => n7 v v0 v1 (by omega))) (fun j hj => f7' j (by omega) (by omega) (by omega) (by omega) (by omega) (by omega))⟩
      · have wt : w < told := by
          rcases Int.lt_or_le w told with q | q
          · exact q
          · rw [if_neg (by omega)] at m0; omega
        refine s_counts2 (T := T) (sz := sz) h5 w0 w16 (fun v v0 v1 => x7 v v0 (by omega)) (fun v v0 v1 => n7 v v0 (by omega) (by omega)) (fun σ8 f8 fb8 fv8 n8 => ?_)
        unfold f_X12_told_u131
        refine ⟨mt_I (by omega) (by omega), k3 z bigc σ8 (IMof σ8 (fun j hj => f8 j (by omega) (by omega) (by omega) (by omega) (by omega) (by omega) (by omega)) (fun x x1 x4 => fb8 x (by omega) (by omega)) (fun v v0 v1 => ?_)) (fun j hj => by rw [f8 j (by omega) (by omega) (by omega) (by omega) (by omega) (by omega) (by omega)]; exact f7' j (by omega) (by omega) (by omega) (by omega) (by omega) (by omega))⟩
        by_cases q : v = w
        · rw [q]; exact n8
        · unfold im_N; rw [(fv8 v q).1, (fv8 v q).2]; exact n7 v v0 v1 q
    · refine k4 z (by omega) σ5 (fun j hj => by rw [f5' j (by omega) (by omega) (by omega) (by omega), f4' j (by omega) (by omega) (by omega) (by omega)]) (fun x x2 x4 => by rw [b5 x (by omega) x4, eb2 x x2 x4]) (by rw [b5 1 (by omega) (by omega), eb1]) (fun v v0 v1 => ?_)
      unfold im_T
      rw [f5' 218 (by omega) (by omega) (by omega) (by omega), f5' 219 (by omega) (by omega) (by omega) (by omega)]
      exact tx4 v v0 v1
  · rw [if_neg z]
    have lt : mt_fl h w n tb < 0 := by
      have := mt_gr_le (t := tb) (n := n) (h := h) (w := w) (n.toNat + 1) 0 0 1 (by omega) (Int.le_refl 0)
      unfold mt_fl at z ⊢
      omega
    refine fun _ => ⟨fun y => absurd rfl y, fun _ => ?_⟩
    have e11 : mt_ms σ1 i' n (mt_fl h w n tb) d' 215 11 = mt_fl h w n tb := rfl
    rw [e11]
    exact fun _ => k2 z lt _ (emp _ (fun j hj => ems j (by omega)) eb2 eb1) (fun j hj => ems j (by omega))
theorem mt_wo_cv {h told ts cap w n : Int} {tb cl pr sz : Int → Int} {T : Int → Int → Int} (h2 : 2 ≤ h) (h5 : h ≤ 5) (t16 : told ≤ 16) (gd : ∀ v : Nat, (v : Int) < told → mt_good h v (T v) (sz v)) (w1 : w ≤ told) (n0 : 0 ≤ n) (z : mt_fl h w n tb = 0) : mt_cv h (mt_wo tb n h (mt_mk h T sz)) (mt_ctw tb n mt_one (mt_cn mt_one T sz)) := by
  refine mt_cv_we (w := w) n0 h2 h5 (fun v v0 v1 => ?_) _ _ _ 1 _ _ (Int.le_refl 0) n0 (Int.le_refl 0) (fun k _ _ => mt_cv_str h5) z
  have := mt_cv_mk (T := T) (sz := sz) h2 h5 v.toNat (by omega) (fun u hu => gd u (by omega))
  rw [show ((v.toNat : Nat) : Int) = v by omega] at this
  exact this
theorem mt_cv_23 {h C : Int} {v : Int → Int} (c : mt_cv h v C) : (v 23 ≤ mt_mst ↔ C ≤ mt_mst) := by
  have := c.2.2.2.1
  unfold mt_mst mt_top at *
  omega
theorem s_isLength {Q : Int → ml_St → Prop} {n ts : Int} {τ : ml_St} (e : τ 215 1 = ts) (k1 : 1 ≤ n → n ≤ 100 → n ≤ ts → Q 1 τ) (k0 : ¬ (1 ≤ n ∧ n ≤ 100 ∧ n ≤ ts) → Q 0 τ) : f_X12_isLength τ n Q := by
  unfold f_X12_isLength f_X12_isLength_u0
  unfold f_X12_isLength_u24 f_X12_isLength_u25
  refine s_lies (fun a b _ => ⟨fun c => absurd c (by omega), fun _ => ?_⟩) (fun c _ => ⟨fun _ => k0 (by omega), fun z => absurd rfl z⟩)
  rw [e]
  exact fun _ => ⟨fun d => k0 (by omega), fun d => k1 a b (by omega)⟩
/-- after telling: all woven anew -/
theorem s_all2 {Q : ml_St → Prop} {h told ts cap : Int} {tb cl pr : Int → Int} {T : Int → Int → Int} {sz : Int → Int} {τ0 τ1 : ml_St} {told0 : Int} (a : im_A h told τ1) (c : im_C h cap cl τ0) (d : im_D pr τ0) (f : ∀ j, (j < 215 ∨ j = 216 ∨ j = 217 ∨ j = 220) → τ1 j = τ0 j) (fb : τ1 215 4 = τ0 215 4) (z : τ1 215 1 = 0) (tx : ∀ v, 0 ≤ v → v < told → im_T h T sz v τ1) (k : ∀ τ, IM h told 0 cap tb cl pr sz T τ → (∀ j, j < 215 → τ j = τ0 j) → Q τ) : f_X12_all τ1 Q := by
  refine s_all a tx (fun τ g gb e => k τ ⟨?_, ⟨by rw [gb 1 (by omega) (by omega), z], by omega, by omega, fun i i0 i1 => absurd i1 (by omega)⟩, ?_, ?_, e⟩ (fun j hj => by rw [g j (by omega), f j (by omega)]))
  · unfold im_A; rw [gb 2 (by omega) (by omega), gb 3 (by omega) (by omega)]; exact a
  · unfold im_C mt_jv; rw [gb 4 (by omega) (by omega), fb, g 217 (by omega), f 217 (by omega)]; exact c
  · unfold im_D; rw [g 220 (by omega), f 220 (by omega)]; exact d
theorem m_word {Q : Int → ml_St → Prop} {h told ts cap n : Int} {tb cl pr sz : Int → Int} {T : Int → Int → Int} {τ0 : ml_St} (i : IM h told ts cap tb cl pr sz T τ0)
    (k1 : ¬ (told ≠ 16 ∧ 1 ≤ n ∧ n ≤ 100 ∧ n ≤ ts) → Q (-1) τ0)
    (k2 : told ≠ 16 → 1 ≤ n → n ≤ 100 → n ≤ ts → mt_fl h told n tb ≠ 0 → ∀ τ, IM h told 0 cap tb cl pr sz T τ → (∀ j, j < 215 → τ j = τ0 j) → Q (mt_fl h told n tb) τ)
    (k3 : told ≠ 16 → 1 ≤ n → n ≤ 100 → n ≤ ts → mt_fl h told n tb = 0 → mt_mst < mt_wo tb n h (mt_mk h T sz) 23 → ∀ τ, IM h told 0 cap tb cl pr sz T τ → (∀ j, j < 215 → τ j = τ0 j) → Q (-5000 - n) τ)
    (k4 : told ≠ 16 → 1 ≤ n → n ≤ 100 → n ≤ ts → mt_fl h told n tb = 0 → mt_wo tb n h (mt_mk h T sz) 23 ≤ mt_mst → ∀ τ, IM h (told + 1) 0 cap tb cl pr (mt_st sz told n) (mt_sT T told tb) τ → (∀ j, j < 215 → τ j = τ0 j) → Q told τ) : f_X12_word τ0 n Q := by
  have iT := IM_T i
  obtain ⟨a, b, c, d, e⟩ := i
  obtain ⟨a1, a2, h2, h5, t0, t16⟩ := id a
  unfold f_X12_word f_X12_word_u0
  unfold f_X12_word_u17
  rw [a2]
  refine fun _ => ⟨fun z => k1 (fun q => q.1 z), fun z => s_isLength b.1 (fun n1 n100 nt _ => ⟨fun _ => ?_, fun y => absurd y (by omega)⟩) (fun q _ => ⟨fun y => absurd rfl y, fun _ => k1 (fun y => q y.2)⟩)⟩
  rw [a2]
  refine fun _ => ⟨t0, by omega, fun σ6 s6 => ?_⟩
  have f6 : ∀ j, j ≠ 219 → σ6 j = τ0 j := fun j hj => by rw [s6, ml_up_k hj]
  rw [f6 215 (by omega), a2]
  have cvz := fun z0 => mt_wo_cv (told := told) (ts := ts) (cap := cap) (cl := cl) (pr := pr) (tb := tb) h2 h5 t16 iT (Int.le_refl told) (show 0 ≤ n by omega) z0
  refine fun _ => s_told (w := told) (m := 0) (ts := ts) (cap := cap) (tb := tb) (cl := cl) (pr := pr) (sz := sz) (T := T) (by unfold im_A; rw [f6 215 (by omega)]; exact a) (by unfold im_B; rw [f6 215 (by omega), f6 216 (by omega)]; exact b) (by unfold im_C mt_jv; rw [f6 215 (by omega), f6 217 (by omega)]; exact c) (by unfold im_D; rw [f6 220 (by omega)]; exact d) (fun v v0 v1 => ?_) t0 (Int.le_refl _) (by omega) n1 n100 nt (by rw [s6, ml_up_same]) (by rw [if_neg (by omega)]) (fun z1 lt τ iτ f _ => ⟨fun y => absurd lt (by omega), fun _ => k2 z n1 n100 nt z1 τ iτ (fun j hj => by rw [f j hj, f6 j (by omega)])⟩) (fun z1 big τ iτ f _ => ⟨fun y => absurd y (by omega), fun _ => k3 z n1 n100 nt z1 ?_ τ iτ (fun j hj => by rw [f j hj, f6 j (by omega)])⟩) (fun z1 sml τ f fb zb tx _ => ⟨fun _ => ?_, fun y => absurd (Int.le_refl 0) y⟩)
  · obtain ⟨x1, x2, x, x3, x4, x5⟩ := e v v0 v1
    refine ⟨?_, ?_, x, ?_, x4, x5⟩
    · unfold im_T at x1 ⊢; rw [f6 218 (by omega), s6, ml_up_i (by omega)]; exact x1
    · unfold im_N; rw [f6 221 (by omega), f6 222 (by omega)]; exact x2
    · unfold mt_mv; rw [f6 227 (by omega), f6 228 (by omega), f6 229 (by omega), f6 230 (by omega), f6 231 (by omega)]; exact x3
  · have := mt_cv_23 (cvz z1)
    omega
  · have e3 : τ 215 3 = told := by rw [fb 3 (by omega) (by omega), f6 215 (by omega), a2]
    rw [e3]
    refine fun _ => ⟨mt_I (by omega) (by omega), fun σ12 s12 => ?_⟩
    have k12 : ∀ j, j ≠ 215 → σ12 j = τ j := fun j hj => by rw [s12, ml_up_k hj]
    rw [show max told (told + 1) = told + 1 by omega] at tx
    refine s_all2 (h := h) (told := told + 1) (ts := ts) (cap := cap) (tb := tb) (cl := cl) (pr := pr) (T := mt_sT T told tb) (sz := mt_st sz told n) (τ0 := τ0) (told0 := told) ⟨by rw [s12, ml_up_i (by omega), fb 2 (by omega) (by omega), f6 215 (by omega), a1], by rw [s12, ml_up_same], h2, h5, by omega, by omega⟩ c d (fun j hj => by rw [k12 j (by omega), f j hj, f6 j (by omega)]) (by rw [s12, ml_up_i (by omega), fb 4 (by omega) (by omega), f6 215 (by omega)]) (by rw [s12, ml_up_i (by omega), zb]) (fun v v0 v1 => ?_) (fun σ13 i13 f13 => ?_)
    · have := tx v v0 v1
      unfold im_T at this ⊢; rw [k12 218 (by omega), k12 219 (by omega)]; exact this
    · rw [i13.1.2.1]
      refine fun _ => ⟨mt_I (by omega) (by omega), ?_⟩
      rw [show told + 1 - 1 = told by omega]
      exact k4 z n1 n100 nt z1 ((mt_cv_23 (cvz z1)).2 sml) σ13 i13 f13
theorem m_change {Q : Int → ml_St → Prop} {h told ts cap w n : Int} {tb cl pr sz : Int → Int} {T : Int → Int → Int} {τ0 : ml_St} (i : IM h told ts cap tb cl pr sz T τ0)
    (k1 : ¬ ((0 ≤ w ∧ w < told) ∧ 1 ≤ n ∧ n ≤ 100 ∧ n ≤ ts) → Q (-1) τ0)
    (k2 : 0 ≤ w → w < told → 1 ≤ n → n ≤ 100 → n ≤ ts → mt_fl h w n tb ≠ 0 → ∀ τ, IM h told 0 cap tb cl pr sz T τ → (∀ j, j < 215 → τ j = τ0 j) → Q (mt_fl h w n tb) τ)
    (k3 : 0 ≤ w → w < told → 1 ≤ n → n ≤ 100 → n ≤ ts → mt_fl h w n tb = 0 → mt_mst < mt_wo tb n h (mt_mk h T sz) 23 → ∀ τ, IM h told 0 cap tb cl pr sz T τ → (∀ j, j < 215 → τ j = τ0 j) → Q (-5000 - n) τ)
    (k4 : 0 ≤ w → w < told → 1 ≤ n → n ≤ 100 → n ≤ ts → mt_fl h w n tb = 0 → mt_wo tb n h (mt_mk h T sz) 23 ≤ mt_mst → ∀ τ, IM h told 0 cap tb cl pr (mt_st sz w n) (mt_sT T w tb) τ → (∀ j, j < 215 → τ j = τ0 j) → Q w τ) : f_X12_change τ0 w n Q := by
  have iT := IM_T i
  obtain ⟨a, b, c, d, e⟩ := i
  obtain ⟨a1, a2, h2, h5, t0, t16⟩ := id a
  unfold f_X12_change f_X12_change_u0
  unfold f_X12_change_u16
  refine s_isWord t0 t16 a2 (fun w0 w1 _ => ⟨fun y => absurd y (by omega), fun _ => s_isLength b.1 (fun n1 n100 nt _ => ⟨fun _ => ?_, fun y => absurd y (by omega)⟩) (fun q _ => ⟨fun y => absurd rfl y, fun _ => k1 (fun y => q y.2)⟩)⟩) (fun q _ => ⟨fun _ => k1 (fun y => q y.1), fun y => absurd rfl y⟩)
  have cvz := fun z0 => mt_wo_cv (told := told) (w := w) (ts := ts) (cap := cap) (cl := cl) (pr := pr) (tb := tb) h2 h5 t16 iT (by omega) (show 0 ≤ n by omega) z0
  refine s_told (w := w) (m := sz w) (ts := ts) (cap := cap) (tb := tb) (cl := cl) (pr := pr) (sz := sz) (T := T) a b c d e w0 (by omega) (by omega) n1 n100 nt (e w w0 w1).1.2.1 (by rw [if_pos w1]) (fun z1 lt τ iτ f _ => ⟨fun y => absurd lt (by omega), fun _ => k2 w0 w1 n1 n100 nt z1 τ iτ f⟩) (fun z1 big τ iτ f _ => ⟨fun y => absurd y (by omega), fun _ => k3 w0 w1 n1 n100 nt z1 ?_ τ iτ f⟩) (fun z1 sml τ f fb zb tx _ => ⟨fun _ => ?_, fun y => absurd (Int.le_refl 0) y⟩)
  · have := mt_cv_23 (cvz z1)
    omega
  · rw [show max told (w + 1) = told by omega] at tx
    refine s_all2 (h := h) (told := told) (ts := ts) (cap := cap) (tb := tb) (cl := cl) (pr := pr) (T := mt_sT T w tb) (sz := mt_st sz w n) (τ0 := τ0) (told0 := told) ⟨by rw [fb 2 (by omega) (by omega), a1], by rw [fb 3 (by omega) (by omega), a2], h2, h5, t0, t16⟩ c d f (fb 4 (by omega) (by omega)) zb tx (fun σ13 i13 f13 => k4 w0 w1 n1 n100 nt z1 ((mt_cv_23 (cvz z1)).2 sml) σ13 i13 f13)
theorem m_rails {Q : Int → ml_St → Prop} {h told ts cap n : Int} {tb cl pr sz : Int → Int} {T : Int → Int → Int} {τ0 : ml_St} (i : IM h told ts cap tb cl pr sz T τ0) (k0 : ¬ (2 ≤ n ∧ n ≤ 5 ∧ told = 0) → Q 0 τ0) (k1 : 2 ≤ n → n ≤ 5 → told = 0 → ∀ τ, IM n told ts 0 tb (mt_str n) pr sz T τ → (∀ j, j < 215 → τ j = τ0 j) → Q 1 τ) : f_X12_rails τ0 n Q := by
  obtain ⟨a, b, c, d, e⟩ := i
  obtain ⟨a1, a2, h2, h5, t0, t16⟩ := id a
  unfold f_X12_rails f_X12_rails_u0
  unfold f_X12_rails_u21
  refine s_lies (fun x y _ => ⟨fun z => absurd z (by omega), fun _ => ?_⟩) (fun q _ => ⟨fun _ => k0 (fun z => q ⟨z.1, z.2.1⟩), fun z => absurd rfl z⟩)
  rw [a2]
  refine fun _ => ⟨fun z σ5 s5 σ6 s6 => ?_, fun z => k0 (by omega)⟩
  have t00 : told = 0 := by omega
  have f6 : ∀ j, j ≠ 215 → σ6 j = τ0 j := fun j hj => by rw [s6, ml_up_k hj, s5, ml_up_k hj]
  refine k1 x y t00 σ6 ⟨⟨by rw [s6, ml_up_i (by omega), s5, ml_up_same], by rw [s6, ml_up_i (by omega), s5, ml_up_i (by omega), a2], x, y, t0, t16⟩, ?_, ⟨by rw [s6, ml_up_same], Or.inl rfl, fun e e0 e1 => ⟨fun z => absurd (by rw [s6, ml_up_same]) z, fun _ => rfl⟩, mt_str_M y⟩, ?_, fun v v0 v1 => absurd v1 (by omega)⟩ (fun j hj => f6 j (by omega))
  · unfold im_B; rw [f6 216 (by omega), s6, ml_up_i (by omega), s5, ml_up_i (by omega)]; exact b
  · unfold im_D; rw [f6 220 (by omega)]; exact d
theorem m_round {Q : Int → ml_St → Prop} {h told ts cap : Int} {tb cl pr sz : Int → Int} {T : Int → Int → Int} {τ0 : ml_St} (i : IM h told ts cap tb cl pr sz T τ0) (k : ∀ τ, IM h told ts 0 tb (mt_str h) pr sz T τ → (∀ j, j < 215 → τ j = τ0 j) → Q 1 τ) : f_X12_round τ0 Q := by
  obtain ⟨a, b, c, d, e⟩ := i
  unfold f_X12_round f_X12_round_u0
  intro σ1 s1
  have f : ∀ j, j ≠ 215 → σ1 j = τ0 j := fun j hj => by rw [s1, ml_up_k hj]
  have fb : ∀ b, b ≠ 4 → σ1 215 b = τ0 215 b := fun b hb => by rw [s1, ml_up_i hb]
  refine k σ1 ⟨?_, ?_, ⟨by rw [s1, ml_up_same], Or.inl rfl, fun e e0 e1 => ⟨fun z => absurd (by rw [s1, ml_up_same]) z, fun _ => rfl⟩, mt_str_M a.2.2.2.1⟩, ?_, fun v v0 v1 => ?_⟩ (fun j hj => f j (by omega))
  · unfold im_A; rw [fb 2 (by omega), fb 3 (by omega)]; exact a
  · unfold im_B; rw [fb 1 (by omega), f 216 (by omega)]; exact b
  · unfold im_D; rw [f 220 (by omega)]; exact d
  · obtain ⟨x1, x2, x, x3, x4, x5⟩ := e v v0 v1
    refine ⟨?_, ?_, x, ?_, x4, x5⟩
    · unfold im_T; rw [f 218 (by omega), f 219 (by omega)]; exact x1
    · unfold im_N; rw [f 221 (by omega), f 222 (by omega)]; exact x2
    · unfold mt_mv; rw [f 227 (by omega), f 228 (by omega), f 229 (by omega), f 230 (by omega), f 231 (by omega)]; exact x3
theorem s_push {Q : ml_St → Prop} {ts x : Int} {tb : Int → Int} {τ : ml_St} (b : im_B ts tb τ) (h196 : ts ≤ 196) (k : ∀ τ', (∀ j, j ≠ 215 → j ≠ 216 → τ' j = τ j) → (∀ b, b ≠ 1 → τ' 215 b = τ 215 b) → im_B (ts + 4) (mt_push tb ts x) τ' → Q τ') : f_X12_push τ x Q := by
  obtain ⟨b1, b2, b3, b4⟩ := b
  have I8 : ∀ z, ml_I8 (b_i2b z) := fun z => by
    unfold b_i2b
    generalize (Int32.ofInt z).toInt8 = y
    exact ⟨by have := Int8.le_toInt y; omega, by have := Int8.toInt_lt y; omega⟩
  have one : ∀ (N : Nat) (s t : Int) (τ : ml_St), 0 ≤ s → s ≤ 24 → τ 215 1 = t → 0 ≤ t → t < 200 → f_X12_push_u3 Q (f_X12_push_u36 Q) N (ml_up (ml_up τ 216 t (b_i2b (b_shr x s))) 215 1 (t + 1)) x (s - 8) → f_X12_push_u3 Q (f_X12_push_u36 Q) (N + 1) τ x s := by
    intro N s t τ s0 s1 e t0 t1 kk
    unfold f_X12_push_u3
    rw [e]
    refine ⟨fun c => absurd c (by omega), fun _ _ => ⟨t0, t1, fun σ3 s3 => ?_⟩⟩
    rw [s3, ml_up_k (by omega), e]
    refine fun _ => ⟨mt_I (by omega) (by omega), fun σ6 s6 => ⟨mt_I (by omega) (by omega), fun y7 e7 => ?_⟩⟩
    rw [s6, e7]
    exact kk
  unfold f_X12_push f_X12_push_u0
  refine ⟨5, one 4 24 ts τ (by omega) (by omega) b1 b2 (by omega) (one 3 16 (ts + 1) _ (by omega) (by omega) (ml_up_same _ _ _ _) (by omega) (by omega) (one 2 8 (ts + 2) _ (by omega) (by omega) ?_ (by omega) (by omega) (one 1 0 (ts + 3) _ (by omega) (by omega) ?_ (by omega) (by omega) ?_)))⟩
  · rw [ml_up_same]; omega
  · rw [ml_up_same]; omega
  · unfold f_X12_push_u3
    refine ⟨fun _ => ?_, fun c => absurd c (by omega)⟩
    unfold f_X12_push_u36
    refine k _ (fun j h1 h2 => by rw [ml_up_k h1, ml_up_k h2, ml_up_k h1, ml_up_k h2, ml_up_k h1, ml_up_k h2, ml_up_k h1, ml_up_k h2]) (fun b hb => by rw [ml_up_i hb, ml_up_k (by omega), ml_up_i hb, ml_up_k (by omega), ml_up_i hb, ml_up_k (by omega), ml_up_i hb, ml_up_k (by omega)]) ⟨by rw [ml_up_same]; omega, by omega, by omega, fun i i0 i1 => ?_⟩
    have n32 : (216 : Int) ≠ 215 := by omega
    simp only [mt_up2, n32, false_and, if_false, true_and]
    unfold mt_push
    by_cases c0 : i = ts
    · subst c0
      rw [if_neg (by omega), if_neg (by omega), if_neg (by omega), if_pos rfl, if_pos rfl]
      exact ⟨rfl, I8 _⟩
    rw [if_neg c0]
    by_cases c1 : i = ts + 1
    · rw [if_neg (by omega), if_neg (by omega), if_pos c1, if_neg c0, if_pos c1]
      exact ⟨rfl, I8 _⟩
    rw [if_neg c1]
    by_cases c2 : i = ts + 2
    · rw [if_neg (by omega), if_pos c2, if_neg c0, if_neg c1, if_pos c2]
      exact ⟨rfl, I8 _⟩
    rw [if_neg c2]
    by_cases c3 : i = ts + 3
    · rw [if_pos c3, if_neg c0, if_neg c1, if_neg c2, if_pos c3]
      exact ⟨rfl, I8 _⟩
    rw [if_neg c3, if_neg c0, if_neg c1, if_neg c2, if_neg c3]
    exact b4 i i0 (by omega)
theorem m_feed {Q : Int → ml_St → Prop} {h told ts cap x1 x2 x3 x4 x5 : Int} {tb cl pr sz : Int → Int} {T : Int → Int → Int} {τ0 : ml_St} (i : IM h told ts cap tb cl pr sz T τ0) (k0 : 180 < ts → Q (-1) τ0) (k1 : ts ≤ 180 → ∀ τ, IM h told (ts + 20) cap (mt_fed tb ts x1 x2 x3 x4 x5) cl pr sz T τ → (∀ j, j < 215 → τ j = τ0 j) → Q (ts + 20) τ) : f_X12_feed τ0 x1 x2 x3 x4 x5 Q := by
  obtain ⟨a, b, c, d, e⟩ := i
  have b1 := b.1
  have b2 := b.2.1
  have b3 := b.2.2.1
  unfold f_X12_feed f_X12_feed_u0
  rw [b1]
  refine fun _ => ⟨mt_I (by omega) (by omega), fun q => ?_, fun q => k0 (by omega)⟩
  refine s_push b (by omega) (fun σ1 f1 p1 g1 => s_push g1 (by omega) (fun σ2 f2 p2 g2 => s_push g2 (by omega) (fun σ3 f3 p3 g3 => s_push g3 (by omega) (fun σ4 f4 p4 g4 => s_push g4 (by omega) (fun σ5 f5 p5 g5 => ?_)))))
  rw [g5.1]
  have e20 : ts + 4 + 4 + 4 + 4 + 4 = ts + 20 := by omega
  rw [e20] at g5 ⊢
  rw [show ts + 4 + 4 + 4 + 4 = ts + 16 by omega, show ts + 4 + 4 + 4 = ts + 12 by omega, show ts + 4 + 4 = ts + 8 by omega] at g5
  have f : ∀ j, j ≠ 215 → j ≠ 216 → σ5 j = τ0 j := fun j h1 h2 => by rw [f5 j h1 h2, f4 j h1 h2, f3 j h1 h2, f2 j h1 h2, f1 j h1 h2]
  have fb : ∀ b, b ≠ 1 → σ5 215 b = τ0 215 b := fun b h1 => by rw [p5 b h1, p4 b h1, p3 b h1, p2 b h1, p1 b h1]
  refine fun _ => k1 (by omega) σ5 ⟨?_, g5, ?_, ?_, fun v v0 v1 => ?_⟩ (fun j hj => f j (by omega) (by omega))
  · unfold im_A; rw [fb 2 (by omega), fb 3 (by omega)]; exact a
  · unfold im_C mt_jv; rw [fb 4 (by omega), f 217 (by omega) (by omega)]; exact c
  · unfold im_D; rw [f 220 (by omega) (by omega)]; exact d
  · obtain ⟨x1, x2, x, x3, x4, x5⟩ := e v v0 v1
    refine ⟨?_, ?_, x, ?_, x4, x5⟩
    · unfold im_T; rw [f 218 (by omega) (by omega), f 219 (by omega) (by omega)]; exact x1
    · unfold im_N; rw [f 221 (by omega) (by omega), f 222 (by omega) (by omega)]; exact x2
    · unfold mt_mv; rw [f 227 (by omega) (by omega), f 228 (by omega) (by omega), f 229 (by omega) (by omega), f 230 (by omega) (by omega), f 231 (by omega) (by omega)]; exact x3
theorem IM_B0 {h told ts cap : Int} {tb cl pr sz : Int → Int} {T : Int → Int → Int} {τ0 τ : ml_St} (f : ∀ j, j ≠ 215 → τ j = τ0 j) (fb : ∀ x, x ≠ 1 → τ 215 x = τ0 215 x) (z : τ 215 1 = 0) (i : IM h told ts cap tb cl pr sz T τ0) : IM h told 0 cap tb cl pr sz T τ := by
  obtain ⟨a, b, c, d, e⟩ := i
  refine ⟨?_, ⟨z, by omega, by omega, fun i i0 i1 => absurd i1 (by omega)⟩, ?_, ?_, fun v v0 v1 => ?_⟩
  · unfold im_A; rw [fb 2 (by omega), fb 3 (by omega)]; exact a
  · unfold im_C mt_jv; rw [fb 4 (by omega), f 217 (by omega)]; exact c
  · unfold im_D; rw [f 220 (by omega)]; exact d
  · obtain ⟨x1, x2, x, x3, x4, x5⟩ := e v v0 v1
    refine ⟨?_, ?_, x, ?_, x4, x5⟩
    · unfold im_T; rw [f 218 (by omega), f 219 (by omega)]; exact x1
    · unfold im_N; rw [f 221 (by omega), f 222 (by omega)]; exact x2
    · unfold mt_mv; rw [f 227 (by omega), f 228 (by omega), f 229 (by omega), f 230 (by omega), f 231 (by omega)]; exact x3
theorem mt_ub_r {tb : Int → Int} {i : Int} (h : ml_I8 (tb i)) : 0 ≤ mt_ub tb i ∧ mt_ub tb i ≤ 255 := by
  unfold mt_ub; rw [mb_255 h]; have := h.1; have := h.2; split <;> omega
theorem m_caps {Q : Int → ml_St → Prop} {h told ts cap : Int} {tb cl pr sz : Int → Int} {T : Int → Int → Int} {τ0 : ml_St} (i : IM h told ts cap tb cl pr sz T τ0) (k0 : ¬ (h % 2 = 0 ∧ 2 * h ≤ ts) → Q 0 τ0) (k1 : h % 2 = 0 → 2 * h ≤ ts → ¬ mt_cap h (mt_ub tb) → ∀ τ, IM h told 0 cap tb cl pr sz T τ → (∀ j, j < 215 → τ j = τ0 j) → Q 0 τ) (k2 : h % 2 = 0 → 2 * h ≤ ts → mt_cap h (mt_ub tb) → ∀ τ, IM h told 0 1 tb (mt_ub tb) pr sz T τ → (∀ j, j < 215 → τ j = τ0 j) → Q 1 τ) : f_X12_caps τ0 Q := by
  have i0 := i
  obtain ⟨a, b, c, d, e⟩ := i
  obtain ⟨a1, a2, h2, h5, t0, t16⟩ := id a
  have tm : Int.tmod h 2 = h % 2 := Int.tmod_eq_emod_of_nonneg (by omega)
  unfold f_X12_caps f_X12_caps_u0
  unfold f_X12_caps_u23
  rw [a1, b.1, tm]
  refine fun _ => ⟨by omega, mt_I (by omega) (by omega), fun q => k0 (fun z => by omega), fun q _ _ => ⟨mt_i (by omega) (by omega), fun q2 σ8 s8 => ⟨(2 * h).toNat + 1, ?_⟩, fun q2 => k0 (fun z => q2 z.2)⟩⟩
  have k1 := k1 (by omega) q2
  have k2 := k2 (by omega) q2
  have f8 : ∀ j, j ≠ 215 → σ8 j = τ0 j := fun j hj => by rw [s8, ml_up_k hj]
  have b8 : ∀ x, x ≠ 1 → σ8 215 x = τ0 215 x := fun x hx => by rw [s8, ml_up_i hx]
  have i8 : IM h told 0 cap tb cl pr sz T σ8 := IM_B0 f8 b8 (by rw [s8, ml_up_same]) i0
  have e8 : σ8 215 2 = h := by rw [b8 2 (by omega), a1]
  have u : ∀ i, 0 ≤ i → i < 2 * h → b_and (σ8 216 i) 255 = mt_ub tb i ∧ 0 ≤ mt_ub tb i ∧ mt_ub tb i ≤ 255 ∧ σ8 216 i = tb i := fun i i0 i1 => by
    have g := b.2.2.2 i i0 (by omega)
    have r := mt_ub_r g.2
    rw [f8 216 (by omega), g.1]
    exact ⟨rfl, r.1, r.2, rfl⟩
  have NO : ¬ mt_cap h (mt_ub tb) → f_X12_caps_u111 Q σ8 := by
    intro nc
    unfold f_X12_caps_u111
    exact k1 nc σ8 i8 (fun j hj => f8 j (by omega))
  -- copying
  have CP : mt_cap h (mt_ub tb) → f_X12_caps_u119 Q σ8 := by
    intro hcap
    unfold f_X12_caps_u119
    have L : ∀ (N : Nat) (n : Int) (τ : ml_St), 0 ≤ n → n ≤ 2 * h → 2 * h - n < N → (∀ j, j ≠ 217 → τ j = σ8 j) → (∀ x, 0 ≤ x → x < n → τ 217 x = mt_ub tb x) → f_X12_caps_u121 Q (f_X12_caps_u149 Q) N τ n := by
      intro N
      induction N with
      | zero => intro n τ n0 n1 hN; omega
      | succ N ih =>
        intro n τ n0 n1 hN f hx
        unfold f_X12_caps_u121
        rw [f 215 (by omega), e8]
        refine fun _ => ⟨mt_i (by omega) (by omega), fun z => ?_, fun z => ⟨n0, by omega, fun _ => ⟨n0, by omega, fun σ5 s5 => ⟨mt_i (by omega) (by omega), fun y ey => ?_⟩⟩⟩⟩
        · unfold f_X12_caps_u149
          intro σ9 s9
          have f9 : ∀ j, j ≠ 215 → j ≠ 217 → σ9 j = τ0 j := fun j h1 h2 => by rw [s9, ml_up_k h1, f j h2, f8 j h1]
          have b9 : ∀ x, x ≠ 1 → x ≠ 4 → σ9 215 x = τ0 215 x := fun x h1 h2 => by rw [s9, ml_up_i h2, f 215 (by omega), b8 x h1]
          refine k2 hcap σ9 ⟨?_, ⟨by rw [s9, ml_up_i (by omega), f 215 (by omega), s8, ml_up_same], by omega, by omega, fun i i0 i1 => absurd i1 (by omega)⟩, ⟨by rw [s9, ml_up_same], Or.inr rfl, fun x x0 x1 => ⟨fun _ => ?_, fun w => ?_⟩, mt_cap_M (fun x x0 x1 => (u x x0 x1).2.1) hcap⟩, ?_, fun v v0 v1 => ?_⟩ (fun j hj => f9 j (by omega) (by omega))
          · unfold im_A; rw [b9 2 (by omega) (by omega), b9 3 (by omega) (by omega)]; exact a
          · rw [s9, ml_up_k (by omega)]; exact hx x x0 (by omega)
          · rw [s9, ml_up_same] at w; omega
          · unfold im_D; rw [f9 220 (by omega) (by omega)]; exact d
          · obtain ⟨x1, x2, x, x3, x4, x5⟩ := e v v0 v1
            refine ⟨?_, ?_, x, ?_, x4, x5⟩
            · unfold im_T; rw [f9 218 (by omega) (by omega), f9 219 (by omega) (by omega)]; exact x1
            · unfold im_N; rw [f9 221 (by omega) (by omega), f9 222 (by omega) (by omega)]; exact x2
            · unfold mt_mv; rw [f9 227 (by omega) (by omega), f9 228 (by omega) (by omega), f9 229 (by omega) (by omega), f9 230 (by omega) (by omega), f9 231 (by omega) (by omega)]; exact x3
        · subst ey
          refine ih (n + 1) σ5 (by omega) (by omega) (by omega) (fun j hj => by rw [s5, ml_up_k hj, f j hj]) (fun x x0 x1 => ?_)
          rw [s5]
          by_cases q : x = n
          · subst q
            obtain ⟨u1, u2, u3, u4⟩ := u x x0 (by omega)
            rw [ml_up_same, f 216 (by omega), u4]
            have hc := hcap x x0 (by omega)
            have hlt := hc.1
            have g := (b.2.2.2 x x0 (by omega)).2
            unfold mt_ub at hlt u2 ⊢
            rw [mb_255 g] at hlt u2 ⊢
            have := g.1
            split at hlt <;> split <;> omega
          · rw [ml_up_i q]; exact hx x x0 (by omega)
    exact ⟨(2 * h).toNat + 1, L _ 0 σ8 (by omega) (by omega) (by omega) (fun _ _ => rfl) (fun x x0 x1 => absurd x1 (by omega))⟩
  have L : ∀ (N : Nat) (n : Int), 0 ≤ n → n ≤ 2 * h → 2 * h - n < N → (∀ x, 0 ≤ x → x < n → mt_capx h (mt_ub tb) x) → f_X12_caps_u32 Q (f_X12_caps_u111 Q) (f_X12_caps_u119 Q) N σ8 n := by
    intro N
    induction N with
    | zero => intro n n0 n1 hN; omega
    | succ N ih =>
      intro n n0 n1 hN hc
      unfold f_X12_caps_u32
      rw [e8]
      refine fun _ => ⟨mt_i (by omega) (by omega), fun z => CP (fun x x0 x1 => hc x x0 (by omega)), fun z => ⟨n0, by omega, fun _ y4 e4 _ => ⟨mt_i (by omega) (by omega), fun z2 => ?_, fun z2 => ⟨fun z3 => ?_, fun z3 => ?_⟩⟩⟩⟩
      · rw [(u n n0 (by omega)).1] at e4
        exact NO (fun z => by have := (z n n0 (by omega)).1; omega)
      · rw [(u n n0 (by omega)).1] at e4
        exact NO (fun z => (z n n0 (by omega)).2.1 (by omega))
      · rw [(u n n0 (by omega)).1] at e4
        have y0 : 0 ≤ y4 := by rw [e4]; exact (u n n0 (by omega)).2.1
        have go : ∀ s0 s1 : Int, (s0 = if y4 < h then 1 else 0) → (s1 = if n < h then 1 else 0) → f_X12_caps_u94 Q (f_X12_caps_u32 Q (f_X12_caps_u111 Q) (f_X12_caps_u119 Q) N) (f_X12_caps_u111 Q) σ8 n y4 s0 s1 := by
          intro s0 s1 e0 e1
          unfold f_X12_caps_u94
          refine ⟨fun z4 => NO (fun z => ?_), fun z4 => ⟨y0, by omega, ?_⟩⟩
          · have := (z n n0 (by omega)).2.2.1
            rw [← e4] at this
            rw [e0, e1] at z4
            by_cases y : y4 < h
            · rw [if_pos y, if_pos (this.1 y)] at z4; exact z4 rfl
            · rw [if_neg y, if_neg (fun q => y (this.2 q))] at z4; exact z4 rfl
          · rw [(u y4 y0 (by omega)).1]
            refine fun _ => ⟨fun z5 => ⟨mt_i (by omega) (by omega), fun y e => ?_⟩, fun z5 => NO (fun z => z5 ?_)⟩
            · subst e
              refine ih (n + 1) (by omega) (by omega) (by omega) (fun x x0 x1 => ?_)
              by_cases w : x = n
              · subst w
                refine ⟨by omega, by omega, ?_, by rw [← e4]; exact z5⟩
                rw [← e4]
                rw [e0, e1] at z4
                constructor
                · intro q
                  rcases Int.lt_or_le x h with v | v
                  · exact v
                  · rw [if_pos q, if_neg (by omega)] at z4; omega
                · intro q
                  rcases Int.lt_or_le y4 h with v | v
                  · exact v
                  · rw [if_neg (by omega), if_pos q] at z4; omega
              · exact hc x x0 (by omega)
            · have := (z n n0 (by omega)).2.2.2
              rw [← e4] at this; exact this
        have go2 : ∀ s0 : Int, (s0 = if y4 < h then 1 else 0) → f_X12_caps_u81 Q (f_X12_caps_u32 Q (f_X12_caps_u111 Q) (f_X12_caps_u119 Q) N) (f_X12_caps_u111 Q) σ8 n y4 s0 := by
          intro s0 es
          unfold f_X12_caps_u81
          rw [e8]
          exact fun _ => ⟨fun z5 => go s0 0 es (by rw [if_neg (by omega)]), fun z5 => go s0 1 es (by rw [if_pos (by omega)])⟩
        exact fun _ => ⟨fun z4 => go2 0 (by rw [if_neg (by omega)]), fun z4 => go2 1 (by rw [if_pos (by omega)])⟩
  exact L _ 0 (by omega) (by omega) (by omega) (fun x x0 x1 => absurd x1 (by omega))
theorem IM_cv {h told ts cap : Int} {tb cl pr sz : Int → Int} {T : Int → Int → Int} {τ : ml_St} (i : IM h told ts cap tb cl pr sz T τ) {w : Int} (w0 : 0 ≤ w) (w1 : w < told) : mt_cv h (mt_mk h T sz w) (mt_cn mt_one T sz w) ∧ mt_cn mt_one T sz w = mt_cn mt_sx T sz w + mt_cn mt_su T sz w ∧ 0 ≤ mt_cn mt_sx T sz w ∧ 0 ≤ mt_cn mt_su T sz w := by
  have iT := IM_T i
  obtain ⟨a1, a2, h2, h5, t0, t16⟩ := i.1
  have sx0 : ∀ c, 0 ≤ mt_sx c := fun c => by unfold mt_sx; split <;> omega
  have su0 : ∀ c, 0 ≤ mt_su c := fun c => by unfold mt_su; split <;> omega
  have g1 := mt_cv_mk (T := T) (sz := sz) h2 h5 w.toNat (by omega) (fun u hu => iT u (by omega))
  have g2 := mt_cn_add (h := h) (T := T) (sz := sz) w.toNat (by omega) (fun u hu => iT u (by omega))
  have g3 := mt_cn_0 (h := h) (T := T) (sz := sz) sx0 w.toNat (by omega) (fun u hu => iT u (by omega))
  have g4 := mt_cn_0 (h := h) (T := T) (sz := sz) su0 w.toNat (by omega) (fun u hu => iT u (by omega))
  rw [show ((w.toNat : Nat) : Int) = w by omega] at g1 g2 g3 g4
  exact ⟨g1, g2, g3, g4⟩
theorem IM_w {h told ts cap : Int} {tb cl pr sz : Int → Int} {T : Int → Int → Int} {τ : ml_St} (i : IM h told ts cap tb cl pr sz T τ) {w : Int} (q : mt_md told (mt_mk h T sz) w) : mt_mv h τ w (mt_mk h T sz w) ∧ mt_M h (mt_mk h T sz w) ∧ mt_ok h (mt_mk h T sz w) ∧ 0 ≤ w ∧ w < 16 := by
  obtain ⟨w0, w1, w2⟩ := q
  have t16 := i.1.2.2.2.2.2
  have cv := (IM_cv i w0 w1).1
  obtain ⟨-, -, x, x3, x4, x5⟩ := i.2.2.2.2 w w0 w1
  exact ⟨mt_mv_eq (x5 ((mt_cv_23 cv).1 w2)) x3, cv.2.1, cv.2.2.1, w0, by omega⟩
theorem m_isWord {Q : Int → ml_St → Prop} {h told ts cap w : Int} {tb cl pr sz : Int → Int} {T : Int → Int → Int} {τ : ml_St} (i : IM h told ts cap tb cl pr sz T τ) (k1 : 0 ≤ w → w < told → Q 1 τ) (k0 : ¬ (0 ≤ w ∧ w < told) → Q 0 τ) : f_X12_isWord τ w Q := s_isWord i.1.2.2.2.2.1 i.1.2.2.2.2.2 i.1.2.1 k1 k0
theorem m_isTooLong {Q : Int → ml_St → Prop} {h told ts cap w : Int} {tb cl pr sz : Int → Int} {T : Int → Int → Int} {τ : ml_St} (i : IM h told ts cap tb cl pr sz T τ) (w0 : 0 ≤ w) (w1 : w < told) (k1 : mt_mst < mt_mk h T sz w 23 → Q 1 τ) (k0 : mt_mk h T sz w 23 ≤ mt_mst → Q 0 τ) : f_X12_isTooLong τ w Q := by
  obtain ⟨c1, c2, c3, c4⟩ := IM_cv i w0 w1
  have n := (i.2.2.2.2 w w0 w1).2.1
  have t16 := i.1.2.2.2.2.2
  have q := mt_cv_23 c1
  exact s_isTooLong12 w0 (by omega) n.1 n.2 c3 c4 (fun z => k1 (by omega)) (fun z => k0 (by omega))
theorem m_isMade {Q : Int → ml_St → Prop} {h told ts cap w : Int} {tb cl pr sz : Int → Int} {T : Int → Int → Int} {τ : ml_St} (i : IM h told ts cap tb cl pr sz T τ) (k1 : mt_md told (mt_mk h T sz) w → Q 1 τ) (k0 : ¬ mt_md told (mt_mk h T sz) w → Q 0 τ) : f_X12_isMade τ w Q := by
  unfold f_X12_isMade f_X12_isMade_u0
  unfold f_X12_isMade_u20 f_X12_isMade_u21
  exact m_isWord i (fun w0 w1 _ => ⟨fun z => absurd z (by omega), fun _ => m_isTooLong i w0 w1 (fun c _ => ⟨fun _ => k0 (fun z => by have := z.2.2; omega), fun z => absurd z (by omega)⟩) (fun c _ => ⟨fun z => absurd rfl z, fun _ => k1 ⟨w0, w1, c⟩⟩)⟩) (fun q _ => ⟨fun _ => k0 (fun z => q ⟨z.1, z.2.1⟩), fun z => absurd rfl z⟩)
theorem m_isEnd {Q : Int → ml_St → Prop} {h e : Int} {τ : ml_St} (h2 : 2 ≤ h) (h5 : h ≤ 5) (eh : τ 215 2 = h) (k1 : 0 ≤ e → e < 2 * h → Q 1 τ) (k0 : ¬ (0 ≤ e ∧ e < 2 * h) → Q 0 τ) : f_X12_isEnd τ e Q := by
  unfold f_X12_isEnd f_X12_isEnd_u0
  rw [eh]
  exact fun _ => ⟨mt_I (by omega) (by omega), mt_I (by omega) (by omega), s_lies (fun a b _ => k1 a (by omega)) (fun c _ => k0 (fun z => c ⟨z.1, by omega⟩))⟩
theorem m_signs {Q : Int → ml_St → Prop} {h told ts cap w : Int} {tb cl pr sz : Int → Int} {T : Int → Int → Int} {τ : ml_St} (i : IM h told ts cap tb cl pr sz T τ) (k1 : 0 ≤ w → w < told → Q (mt_mk h T sz w 23) τ) (k0 : ¬ (0 ≤ w ∧ w < told) → Q (-1) τ) : f_X12_signs τ w Q := by
  have t16 := i.1.2.2.2.2.2
  unfold f_X12_signs f_X12_signs_u0
  unfold f_X12_signs_u19
  refine m_isWord i (fun w0 w1 _ => ⟨fun z => absurd z (by omega), fun _ => ?_⟩) (fun q _ => ⟨fun _ => k0 q, fun z => absurd rfl z⟩)
  obtain ⟨c1, c2, c3, c4⟩ := IM_cv i w0 w1
  have n := (i.2.2.2.2 w w0 w1).2.1
  refine s_signsOf w0 (by omega) n.1 n.2 c3 c4 (fun _ => ?_)
  rw [← c2, ← c1.2.2.2.1]
  exact k1 w0 w1
theorem m_joined {Q : Int → ml_St → Prop} {h told ts cap w e : Int} {tb cl pr sz : Int → Int} {T : Int → Int → Int} {τ : ml_St} (i : IM h told ts cap tb cl pr sz T τ) (k1 : mt_md told (mt_mk h T sz) w → 0 ≤ e → e < 2 * h → Q (mt_mk h T sz w e) τ) (k0 : ¬ (mt_md told (mt_mk h T sz) w ∧ 0 ≤ e ∧ e < 2 * h) → Q (-1) τ) : f_X12_joined τ w e Q := by
  have a := i.1
  have h5 := a.2.2.2.1
  unfold f_X12_joined f_X12_joined_u0
  unfold f_X12_joined_u30 f_X12_joined_u31
  refine m_isMade i (fun q _ => ⟨fun z => absurd z (by omega), fun _ => m_isEnd a.2.2.1 h5 a.1 (fun e0 e1 _ => ⟨fun z => absurd z (by omega), fun _ => ?_⟩) (fun q2 _ => ⟨fun _ => k0 (fun z => q2 z.2), fun z => absurd rfl z⟩)⟩) (fun q _ => ⟨fun _ => k0 (fun z => q z.1), fun z => absurd rfl z⟩)
  obtain ⟨g1, g2, g3, g4, g5⟩ := IM_w i q
  rw [(g1.1 e e0 e1).1]
  exact ⟨mt_I (by omega) (by omega), mt_I (by omega) (by omega), by omega, by omega, fun _ => k1 q e0 e1⟩
theorem m_length {Q : Int → ml_St → Prop} {h told ts cap w e : Int} {tb cl pr sz : Int → Int} {T : Int → Int → Int} {τ : ml_St} (i : IM h told ts cap tb cl pr sz T τ) (k1 : mt_md told (mt_mk h T sz) w → 0 ≤ e → e < 2 * h → Q (mt_mk h T sz w (10 + e)) τ) (k0 : ¬ (mt_md told (mt_mk h T sz) w ∧ 0 ≤ e ∧ e < 2 * h) → Q (-1) τ) : f_X12_length τ w e Q := by
  have a := i.1
  have h5 := a.2.2.2.1
  unfold f_X12_length f_X12_length_u0
  unfold f_X12_length_u30 f_X12_length_u33
  refine m_isMade i (fun q _ => ⟨fun z => absurd z (by omega), fun _ => m_isEnd a.2.2.1 h5 a.1 (fun e0 e1 _ => ⟨fun z => absurd z (by omega), fun _ => ?_⟩) (fun q2 _ => ⟨fun _ => k0 (fun z => q2 z.2), fun z => absurd rfl z⟩)⟩) (fun q _ => ⟨fun _ => k0 (fun z => q z.1), fun z => absurd rfl z⟩)
  obtain ⟨g1, g2, g3, g4, g5⟩ := IM_w i q
  rw [(g1.1 e e0 e1).2]
  exact ⟨mt_I (by omega) (by omega), mt_I (by omega) (by omega), by omega, by omega, fun _ => k1 q e0 e1⟩
theorem mt_kq_234 {τ τ' : ml_St} (f : ∀ j, j ≠ 234 → τ' j = τ j) : mt_kq τ τ' := mt_kq_o (fun j hj => f j (by omega)) (fun b _ _ => by rw [f 215 (by omega)])
theorem m_loops {Q : Int → ml_St → Prop} {h told ts cap w x : Int} {tb cl pr sz : Int → Int} {T : Int → Int → Int} {τ : ml_St} (i : IM h told ts cap tb cl pr sz T τ) (k1 : mt_md told (mt_mk h T sz) w → 0 ≤ x → x ≤ 3 → ∀ τ', IM h told ts cap tb cl pr sz T τ' → (∀ j, j < 215 → τ' j = τ j) → Q (if x = 0 then mt_mk h T sz w 20 else if x = 1 then mt_mk h T sz w 21 else if x = 2 then mt_mk h T sz w 22 else w64 (mt_mk h T sz w 20 + mt_cl h (mt_mk h T sz w) cl)) τ') (k0 : ¬ (mt_md told (mt_mk h T sz) w ∧ 0 ≤ x ∧ x ≤ 3) → Q (-1) τ) : f_X12_loops τ w x Q := by
  have a := i.1
  have c := i.2.2.1
  unfold f_X12_loops f_X12_loops_u0
  refine m_isMade i (fun q _ => ⟨fun _ => ?_, fun z => absurd z (by omega)⟩) (fun q _ => ⟨fun z => absurd rfl z, fun _ => k0 (fun z => q z.1)⟩)
  obtain ⟨g1, g2, g3, g4, g5⟩ := IM_w i q
  rw [g1.2.1, g1.2.2.1, g1.2.2.2]
  refine ⟨fun z => ⟨g4, by omega, fun _ => ?_⟩, fun z => ⟨g4, by omega, fun _ => ?_⟩, fun z => ⟨g4, by omega, fun _ => ?_⟩, fun z => ⟨g4, by omega, fun _ => ?_⟩, fun z => k0 (fun y => by omega)⟩
  · have := k1 q (by omega) (by omega) τ i (fun _ _ => rfl); rw [if_pos z] at this; exact this
  · have := k1 q (by omega) (by omega) τ i (fun _ _ => rfl); rw [if_neg (by omega), if_pos z] at this; exact this
  · have := k1 q (by omega) (by omega) τ i (fun _ _ => rfl); rw [if_neg (by omega), if_neg (by omega), if_pos z] at this; exact this
  · refine s_closing a.2.2.1 a.2.2.2.1 ⟨g4, by omega⟩ a.1 g2 c.2.2.2 (fun e e0 e1 => (g1.1 e e0 e1).1) c.2.2.1 (fun τ' f _ => ?_)
    have := k1 q (by omega) (by omega) τ' (IM_kq (mt_kq_234 f) i) (fun j hj => f j (by omega)); rw [if_neg (by omega), if_neg (by omega), if_neg (by omega)] at this; exact this
theorem m_both {Q : Int → ml_St → Prop} {h told ts cap a b x : Int} {tb cl pr sz : Int → Int} {T : Int → Int → Int} {τ0 : ml_St} (i : IM h told ts cap tb cl pr sz T τ0) (k1 : mt_md told (mt_mk h T sz) a → mt_md told (mt_mk h T sz) b → 0 ≤ x → x ≤ 3 → ∀ τ, IM h told ts cap tb cl pr sz T τ → (∀ j, j < 215 → τ j = τ0 j) → Q (if x = 0 then mt_alike h (mt_mk h T sz a) (mt_mk h T sz b) else if x = 1 then mt_alike h (mt_both h (mt_mk h T sz a) (mt_mk h T sz b)) (mt_both h (mt_mk h T sz b) (mt_mk h T sz a)) else if x = 2 then mt_alike h (mt_both h (mt_mk h T sz a) (mt_mk h T sz b)) (mt_mk h T sz a) else mt_alike h (mt_both h (mt_mk h T sz a) (mt_mk h T sz b)) (mt_str h)) τ) (k0 : ¬ (mt_md told (mt_mk h T sz) a ∧ mt_md told (mt_mk h T sz) b ∧ 0 ≤ x ∧ x ≤ 3) → Q (-1) τ0) : f_X12_both τ0 a b x Q := by
  have ia := i.1
  have t16 := ia.2.2.2.2.2
  have h2 := ia.2.2.1
  have h5 := ia.2.2.2.1
  have al : ∀ v w, mt_alike h v w = 0 ∨ mt_alike h v w = 1 := fun v w => (mt_al_i (v := v) (w := w) (a := if v 20 = w 20 then 1 else 0) (by split <;> omega) (2 * h).toNat).1
  unfold f_X12_both f_X12_both_u0
  unfold f_X12_both_u28 f_X12_both_u48 f_X12_both_u86 f_X12_both_u107 f_X12_both_u130
  refine m_isMade i (fun q _ => ⟨fun z => absurd z (by omega), fun _ => m_isMade i (fun q2 _ => ⟨fun z => absurd z (by omega), fun _ => s_lies (fun x0 x3 _ => ⟨fun _ => ?_, fun z => absurd z (by omega)⟩) (fun q3 _ => ⟨fun z => absurd rfl z, fun _ => k0 (fun z => q3 z.2.2)⟩)⟩) (fun q2 _ => ⟨fun _ => k0 (fun z => q2 z.2.1), fun z => absurd rfl z⟩)⟩) (fun q _ => ⟨fun _ => k0 (fun z => q z.1), fun z => absurd rfl z⟩)
  obtain ⟨g1, g2, g3, g4, g5⟩ := IM_w i q
  obtain ⟨f1, f2, f3, f4, f5⟩ := IM_w i q2
  have kal : ∀ (v w : Int → Int) (τ : ml_St), Q (mt_alike h v w) τ → ((mt_alike h v w = 0 → Q 0 τ) ∧ (mt_alike h v w ≠ 0 → Q 1 τ)) := fun v w τ hq => ⟨fun c => by rw [c] at hq; exact hq, fun c => by rw [(al v w).resolve_left c] at hq; exact hq⟩
  refine ⟨fun z0 => s_lays h2 h5 ⟨g4, by omega⟩ ⟨f4, by omega⟩ ⟨by omega, by omega⟩ ia.1 g2 f2 g1 f1 (by omega) (by omega) (fun τ1 p1 w1 => ?_), fun z0 => ?_⟩
  · have e1 : τ1 215 2 = h := by rw [p1.2.1 2 (by omega), ia.1]
    have q1 : mt_kq τ0 τ1 := mt_kq_mf (by omega) p1
    refine ⟨fun z1 => ⟨fun z2 => s_straight h2 h5 ⟨by omega, by omega⟩ e1 (fun τ2 p2 w2 => ?_), fun z2 => ?_⟩, fun z1 => s_lays h2 h5 ⟨f4, by omega⟩ ⟨g4, by omega⟩ ⟨by omega, by omega⟩ e1 f2 g2 (mt_mv_f h5 p1 (by omega) f1) (mt_mv_f h5 p1 (by omega) g1) (by omega) (by omega) (fun τ2 p2 w2 => ?_)⟩
    · have kq : mt_kq τ0 τ2 := mt_kq_t q1 (mt_kq_mf (by omega) p2)
      have k := k1 q q2 x0 x3 τ2 (IM_kq kq i) kq.2.2.2
      rw [if_neg z0, if_neg z1, if_neg z2] at k
      exact s_areAlike h2 h5 ⟨by omega, by omega⟩ ⟨by omega, by omega⟩ (by rw [p2.2.1 2 (by omega), e1]) (mt_mv_f h5 p2 (by omega) w1) w2 (fun _ => kal _ _ _ k)
    · have k := k1 q q2 x0 x3 τ1 (IM_kq q1 i) q1.2.2.2
      rw [if_neg z0, if_neg z1, if_pos z2] at k
      exact s_areAlike h2 h5 ⟨by omega, by omega⟩ ⟨g4, by omega⟩ e1 w1 (mt_mv_f h5 p1 (by omega) g1) (fun _ => kal _ _ _ k)
    · have kq : mt_kq τ0 τ2 := mt_kq_t q1 (mt_kq_mf (by omega) p2)
      have k := k1 q q2 x0 x3 τ2 (IM_kq kq i) kq.2.2.2
      rw [if_neg z0, if_pos z1] at k
      exact s_areAlike h2 h5 ⟨by omega, by omega⟩ ⟨by omega, by omega⟩ (by rw [p2.2.1 2 (by omega), e1]) (mt_mv_f h5 p2 (by omega) w1) w2 (fun _ => kal _ _ _ k)
  · have k := k1 q q2 x0 x3 τ0 i (fun _ _ => rfl)
    rw [if_pos z0] at k
    exact s_areAlike h2 h5 ⟨g4, by omega⟩ ⟨f4, by omega⟩ ia.1 g1 f1 (fun _ => kal _ _ _ k)
theorem s_isPlain {Q : Int → ml_St → Prop} {w n : Int} {t : Int → Int} {τ : ml_St} (w0 : 0 ≤ w) (w1 : w < 16) (n0 : 0 ≤ n) (n1 : n ≤ 100) (en : τ 219 w = n) (et : ∀ j, 0 ≤ j → j < n → τ 218 (100 * w + j) = t j) (k1 : mt_pl t n.toNat ≠ 0 → Q 1 τ) (k0 : mt_pl t n.toNat = 0 → Q 0 τ) : f_X12_isPlain τ w Q := by
  have dn : ∀ (m : Nat) (i : Nat), i ≤ m → mt_pl t i = 0 → mt_pl t m = 0 := by
    intro m
    induction m with
    | zero => intro i hi h; have : i = 0 := by omega
              subst this; exact h
    | succ m ih =>
      intro i hi h
      by_cases q : i = m + 1
      · subst q; exact h
      · unfold mt_pl; rw [if_pos (ih i (by omega) h)]
  have L : ∀ (N : Nat) (i : Nat), (i : Int) ≤ n → n - i < N → mt_pl t i ≠ 0 → f_X12_isPlain_u2 Q (f_X12_isPlain_u43 Q) (f_X12_isPlain_u51 Q) N τ w i := by
    intro N
    induction N with
    | zero => intro i hi hN; omega
    | succ N ih =>
      intro i hi hN hp
      unfold f_X12_isPlain_u2
      rw [en]
      refine ⟨w0, w1, fun _ => ⟨fun c => ?_, fun c => ⟨mt_I (by omega) (by omega), mt_I (by omega) (by omega), by omega, by omega, ?_⟩⟩⟩
      · have : i = n.toNat := by omega
        subst this
        unfold f_X12_isPlain_u51
        exact k1 hp
      rw [et i (by omega) (by omega)]
      have nx : (t i = 120 ∨ t i = 117 ∨ (48 ≤ t i ∧ t i ≤ 57)) → f_X12_isPlain_u45 Q (f_X12_isPlain_u2 Q (f_X12_isPlain_u43 Q) (f_X12_isPlain_u51 Q) N) τ w i := by
        intro hc
        unfold f_X12_isPlain_u45
        refine ⟨mt_I (by omega) (by omega), fun y e => ?_⟩
        have e : y = ((i + 1 : Nat) : Int) := by omega
        subst e
        exact ih (i + 1) (by omega) (by omega) (by unfold mt_pl; rw [if_neg hp, if_pos hc]; omega)
      refine fun _ y6 e6 => ⟨fun c1 => nx (Or.inl (by omega)), fun c1 => ⟨fun c2 => nx (Or.inr (Or.inl (by omega))), fun c2 => s_dig12 (fun c3 _ => ⟨fun _ => nx (Or.inr (Or.inr (by omega))), fun z => absurd z (by omega)⟩) (fun c3 _ => ⟨fun z => absurd rfl z, fun _ => ?_⟩)⟩⟩
      unfold f_X12_isPlain_u43
      refine k0 (dn n.toNat (i + 1) (by omega) ?_)
      unfold mt_pl; rw [if_neg hp, if_neg (by omega)]
  unfold f_X12_isPlain f_X12_isPlain_u0
  exact ⟨n.toNat + 1, L _ 0 (by omega) (by omega) (by show (1 : Int) ≠ 0; omega)⟩
theorem m_cost {Q : Int → ml_St → Prop} {h told ts cap w n : Int} {tb cl pr sz : Int → Int} {T : Int → Int → Int} {τ0 : ml_St} (i : IM h told ts cap tb cl pr sz T τ0) (k0 : ¬ ((0 ≤ w ∧ w < told) ∧ 1 ≤ n ∧ n ≤ 1000) → Q 0 τ0) (k1 : 0 ≤ w → w < told → 1 ≤ n → n ≤ 1000 → ∀ τ, IM h told ts cap tb cl (mt_st pr w n) sz T τ → (∀ j, j < 215 → τ j = τ0 j) → Q 1 τ) : f_X12_cost τ0 w n Q := by
  have i0 := i
  obtain ⟨a, b, c, d, e⟩ := i
  have t16 := a.2.2.2.2.2
  unfold f_X12_cost f_X12_cost_u0
  unfold f_X12_cost_u20
  refine m_isWord i0 (fun w0 w1 _ => ⟨fun z => absurd z (by omega), fun _ => s_lies (fun x y _ => ⟨fun _ => ⟨w0, by omega, fun σ5 s5 => ?_⟩, fun z => absurd z (by omega)⟩) (fun q _ => ⟨fun z => absurd rfl z, fun _ => k0 (fun z => q z.2)⟩)⟩) (fun q _ => ⟨fun _ => k0 (fun z => q z.1), fun z => absurd rfl z⟩)
  have f : ∀ j, j ≠ 220 → σ5 j = τ0 j := fun j hj => by rw [s5, ml_up_k hj]
  refine k1 w0 w1 x y σ5 ⟨?_, ?_, ?_, fun v v0 v1 => ?_, fun v v0 v1 => ?_⟩ (fun j hj => f j (by omega))
  · unfold im_A; rw [f 215 (by omega)]; exact a
  · unfold im_B; rw [f 215 (by omega), f 216 (by omega)]; exact b
  · unfold im_C mt_jv; rw [f 215 (by omega), f 217 (by omega)]; exact c
  · unfold mt_st
    by_cases q : v = w
    · rw [if_pos q, q, s5, ml_up_same]; omega
    · rw [if_neg q, s5, ml_up_i q]; exact d v v0 v1
  · obtain ⟨x1, x2, x, x3, x4, x5⟩ := e v v0 v1
    refine ⟨?_, ?_, x, ?_, x4, x5⟩
    · unfold im_T; rw [f 218 (by omega), f 219 (by omega)]; exact x1
    · unfold im_N; rw [f 221 (by omega), f 222 (by omega)]; exact x2
    · unfold mt_mv; rw [f 227 (by omega), f 228 (by omega), f 229 (by omega), f 230 (by omega), f 231 (by omega)]; exact x3
theorem m_check {Q : Int → ml_St → Prop} {h told ts cap w : Int} {tb cl pr sz : Int → Int} {T : Int → Int → Int} {τ0 : ml_St} (i : IM h told ts cap tb cl pr sz T τ0) (k0 : ¬ (mt_md told (mt_mk h T sz) w ∧ 2 * h ≤ ts) → Q (-2) τ0) (k1 : mt_md told (mt_mk h T sz) w → 2 * h ≤ ts → ∀ x, (x = -1 ∧ (∀ e, 0 ≤ e → e < 2 * h → mt_ub tb e = mt_mk h T sz w e)) ∨ (0 ≤ x ∧ x < 2 * h ∧ mt_ub tb x ≠ mt_mk h T sz w x ∧ (∀ e, 0 ≤ e → e < x → mt_ub tb e = mt_mk h T sz w e)) → ∀ τ, IM h told 0 cap tb cl pr sz T τ → (∀ j, j < 215 → τ j = τ0 j) → Q x τ) : f_X12_check τ0 w Q := by
  have a := i.1
  have b := i.2.1
  have h2 := a.2.2.1
  have h5 := a.2.2.2.1
  unfold f_X12_check f_X12_check_u0
  unfold f_X12_check_u21
  refine m_isMade i (fun q _ => ⟨fun z => absurd z (by omega), fun _ => ?_⟩) (fun q _ => ⟨fun _ => k0 (fun z => q z.1), fun z => absurd rfl z⟩)
  rw [b.1, a.1]
  refine fun _ _ => ⟨mt_i (by omega) (by omega), fun c σ7 s7 => ⟨(2 * h).toNat + 1, ?_⟩, fun c => k0 (fun z => c z.2)⟩
  obtain ⟨g1, g2, g3, g4, g5⟩ := IM_w i q
  have f7 : ∀ j, j ≠ 215 → σ7 j = τ0 j := fun j hj => by rw [s7, ml_up_k hj]
  have b7 : ∀ x, x ≠ 1 → σ7 215 x = τ0 215 x := fun x hx => by rw [s7, ml_up_i hx]
  have i7 := IM_B0 f7 b7 (by rw [s7, ml_up_same]) i
  have k1 := fun x hx => k1 q c x hx σ7 i7 (fun j hj => f7 j (by omega))
  have L : ∀ (N : Nat) (n : Int), 0 ≤ n → n ≤ 2 * h → 2 * h - n < N → (∀ e, 0 ≤ e → e < n → mt_ub tb e = mt_mk h T sz w e) → f_X12_check_u31 Q (f_X12_check_u65 Q) (f_X12_check_u73 Q) N σ7 w n := by
    intro N
    induction N with
    | zero => intro n n0 n1 hN; omega
    | succ N ih =>
      intro n n0 n1 hN he
      unfold f_X12_check_u31
      rw [b7 2 (by omega), a.1]
      refine fun _ => ⟨mt_i (by omega) (by omega), fun z => ?_, fun z => ⟨mt_I (by omega) (by omega), mt_I (by omega) (by omega), by omega, by omega, ?_⟩⟩
      · unfold f_X12_check_u73
        exact k1 (-1) (Or.inl ⟨rfl, fun e e0 e1 => he e e0 (by omega)⟩)
      · rw [f7 227 (by omega), (g1.1 n n0 (by omega)).1, f7 216 (by omega), (b.2.2.2 n n0 (by omega)).1]
        refine fun _ => ⟨n0, by omega, fun _ => ⟨fun y => ⟨mt_i (by omega) (by omega), fun y9 e9 => ?_⟩, fun y => ?_⟩⟩
        · subst e9
          refine ih (n + 1) (by omega) (by omega) (by omega) (fun e e0 e1 => ?_)
          by_cases v : e = n
          · rw [v]; exact y.symm
          · exact he e e0 (by omega)
        · unfold f_X12_check_u65
          exact k1 n (Or.inr ⟨n0, by omega, fun v => y v.symm, he⟩)
  exact L _ 0 (by omega) (by omega) (by omega) (fun e e0 e1 => absurd e1 (by omega))
theorem m_count {Q : Int → ml_St → Prop} {h told ts cap x : Int} {tb cl pr sz : Int → Int} {T : Int → Int → Int} {τ : ml_St} (xI : I32 x) (i : IM h told ts cap tb cl pr sz T τ) (k : Q (an_count h told ts cap pr sz x) τ) : f_X12_count τ x Q := by
  obtain ⟨a, b, c, d, e⟩ := i
  have t16 := a.2.2.2.2.2
  have t0 := a.2.2.2.2.1
  have xl := xI.1
  have xu := xI.2
  unfold an_count at k
  unfold f_X12_count f_X12_count_u0
  unfold f_X12_count_u114
  rw [a.2.1]
  refine fun _ => ⟨mt_I (by omega) (by omega), s_lies (fun p1 p2 _ => ⟨fun z => absurd z (by omega), fun _ => ⟨⟨by omega, by omega⟩, by omega, by omega, fun _ => ?_⟩⟩) (fun p _ => ⟨fun _ => ?_, fun z => absurd rfl z⟩)⟩
  · rw [if_neg (by omega), if_neg (by omega), if_neg (by omega), if_neg (by omega), if_pos ⟨p1, by omega⟩] at k
    rw [(e (x - 10) (by omega) (by omega)).1.2.1]; exact k
  · rw [a.2.1]
    refine fun _ => ⟨mt_I (by omega) (by omega), s_lies (fun r1 r2 _ => ⟨fun z => absurd z (by omega), fun _ => ⟨⟨by omega, by omega⟩, by omega, by omega, fun _ => ?_⟩⟩) (fun r _ => ⟨fun _ => ?_, fun z => absurd rfl z⟩)⟩
    · rw [if_neg (by omega), if_neg (by omega), if_neg (by omega), if_neg (by omega), if_neg (by omega), if_pos ⟨r1, by omega⟩] at k
      rw [(d (x - 30) (by omega) (by omega)).1]; exact k
    · refine ⟨fun z0 => ⟨fun z1 => ⟨fun z2 => ⟨fun z3 => ?_, fun z3 => ?_⟩, fun z2 => ?_⟩, fun z1 => ?_⟩, fun z0 => ?_⟩
      · rw [if_neg z0, if_neg z1, if_neg z2, if_neg z3, if_neg (fun y => p ⟨y.1, by omega⟩), if_neg (fun y => r ⟨y.1, by omega⟩)] at k; exact k
      · rw [if_neg z0, if_neg z1, if_neg z2, if_pos z3] at k
        rw [c.1]
        refine fun _ => ⟨fun y => ?_, fun y => ?_⟩
        · rw [y] at k; exact k
        · rw [c.2.1.resolve_left y] at k; exact k
      · rw [if_neg z0, if_neg z1, if_pos z2] at k; rw [b.1]; exact fun _ => k
      · rw [if_neg z0, if_pos z1] at k; rw [a.2.1]; exact fun _ => k
      · rw [if_pos z0] at k; rw [a.1]; exact fun _ => k
/-! the model: is; powers: what they leave follows their pairs -/
theorem m_is {Q : Int → ml_St → Prop} {h told ts cap w x : Int} {tb cl pr sz : Int → Int} {T : Int → Int → Int} {τ : ml_St} (i : IM h told ts cap tb cl pr sz T τ) (k1 : 0 ≤ w → w < told → 0 ≤ x → x ≤ 3 → Q (if x = 0 then (if mt_cn mt_sx T sz w = 0 then 1 else 0) else if x = 1 then (if mt_cn mt_su T sz w = 0 then 1 else 0) else if x = 2 then (if mt_pl (T w) (sz w).toNat = 0 then 0 else 1) else (if mt_mk h T sz w 23 ≤ mt_mst then 0 else 1)) τ) (k0 : ¬ ((0 ≤ w ∧ w < told) ∧ 0 ≤ x ∧ x ≤ 3) → Q (-1) τ) : f_X12_is τ w x Q := by
  have t16 := i.1.2.2.2.2.2
  unfold f_X12_is f_X12_is_u0
  unfold f_X12_is_u20
  refine m_isWord i (fun w0 w1 _ => ⟨fun z => absurd z (by omega), fun _ => s_lies (fun x0 x3 _ => ⟨fun _ => ?_, fun z => absurd z (by omega)⟩) (fun q _ => ⟨fun z => absurd rfl z, fun _ => k0 (fun z => q z.2)⟩)⟩) (fun q _ => ⟨fun _ => k0 (fun z => q z.1), fun z => absurd rfl z⟩)
  obtain ⟨c1, c2, c3, c4⟩ := IM_cv i w0 w1
  have n := (i.2.2.2.2 w w0 w1).2.1
  have t := (i.2.2.2.2 w w0 w1).1
  have k := k1 w0 w1 x0 x3
  have E1 : ∀ v, Q v τ → (v = 0 ∨ v = 1) → f_X12_is_u87 Q τ v := fun v q hv => by
    unfold f_X12_is_u87 f_X12_is_u97
    rcases hv with e | e
    · subst e; exact ⟨fun _ => q, fun z => absurd rfl z⟩
    · subst e; exact ⟨fun z => absurd z (by omega), fun _ => q⟩
  refine ⟨fun z0 => ⟨fun z1 => ⟨fun z2 => ?_, fun z2 => ?_⟩, fun z1 => ⟨w0, by omega, fun _ => ?_⟩⟩, fun z0 => ⟨w0, by omega, fun _ => ?_⟩⟩
  · rw [if_neg z0, if_neg z1, if_neg z2] at k
    refine s_isTooLong12 w0 (by omega) n.1 n.2 c3 c4 (fun q _ => E1 1 ?_ (Or.inr rfl)) (fun q _ => E1 0 ?_ (Or.inl rfl))
    · rw [if_neg (by have := c1.2.2.2.1; unfold mt_mst mt_top at *; omega)] at k; exact k
    · rw [if_pos (by have := c1.2.2.2.1; unfold mt_mst mt_top at *; omega)] at k; exact k
  · rw [if_neg z0, if_neg z1, if_pos z2] at k
    refine s_isPlain (t := T w) w0 (by omega) (by have := t.1.1; omega) (by have := t.1.2.1; omega) t.2.1 t.2.2 (fun q _ => E1 1 ?_ (Or.inr rfl)) (fun q _ => E1 0 ?_ (Or.inl rfl))
    · rw [if_neg q] at k; exact k
    · rw [if_pos q] at k; exact k
  · rw [if_neg z0, if_pos z1] at k
    rw [n.2]
    unfold mt_top
    refine ⟨fun q => E1 0 ?_ (Or.inl rfl), fun q => E1 1 ?_ (Or.inr rfl)⟩
    · rw [if_neg (by omega)] at k; exact k
    · rw [if_pos (by omega)] at k; exact k
  · rw [if_pos z0] at k
    rw [n.1]
    unfold mt_top
    refine ⟨fun q => E1 0 ?_ (Or.inl rfl), fun q => E1 1 ?_ (Or.inr rfl)⟩
    · rw [if_neg (by omega)] at k; exact k
    · rw [if_pos (by omega)] at k; exact k
/-- a long is its number up to a multiple of 2^64 -/
theorem w64_x (x : Int) : ∃ k, w64 x = x + 18446744073709551616 * k := by
  unfold w64
  rw [Int64.toInt_ofInt, Int.bmod_def, show ((Int64.size : Nat) : Int) = 18446744073709551616 from rfl]
  split
  · exact ⟨-(x / 18446744073709551616), by omega⟩
  · exact ⟨-(x / 18446744073709551616) - 1, by omega⟩
theorem w64_u {x y k : Int} (hy : I64 y) (e : y = x + 18446744073709551616 * k) : w64 x = y := by
  obtain ⟨j, hj⟩ := w64_x x
  have r := w64_r x
  have := hy.1; have := hy.2; have := r.1; have := r.2
  omega
theorem w64_q {x y k : Int} (e : y = x + 18446744073709551616 * k) : w64 x = w64 y := by
  obtain ⟨j, hj⟩ := w64_x y
  exact w64_u (w64_r y) (k := k + j) (by omega)
theorem mt_r1_d {h : Int} {a b a' b' : Int → Int} {m s s' t : Int} (ea : mt_eq h a a') (eb : mt_eq h b b') (t0 : 0 ≤ t) (t1 : t < 2 * h) (b0 : 0 ≤ b t) (b1 : b t < h) : (mt_r1 h a b m s t).1 = (mt_r1 h a' b' m s' t).1 ∧ (mt_r1 h a b m s t).2.2 = (mt_r1 h a' b' m s' t).2.2 := by
  have e1 := eb t t0 t1
  have e2 := ea (b t + h) (by omega) (by omega)
  unfold mt_r1
  dsimp only
  rw [← e1, e2]
  exact ⟨rfl, rfl⟩
theorem mt_rs_d {h : Int} {a b a' b' : Int → Int} (h2 : 0 ≤ h) (h5 : h ≤ 5) (ha : mt_M h a) (hb : mt_M h b) (ea : mt_eq h a a') (eb : mt_eq h b b') : ∀ n : Nat, (n : Int) ≤ h → (mt_rs h a b n).1 = (mt_rs h a' b' n).1 ∧ ∃ k k', (mt_rs h a b n).2.1 - (a 20 + b 20) + 18446744073709551616 * k = (mt_rs h a' b' n).2.1 - (a' 20 + b' 20) + 18446744073709551616 * k' := by
  intro n
  induction n with
  | zero =>
    intro _
    unfold mt_rs
    refine ⟨mt_mm_c ea eb _ (by omega), ?_⟩
    dsimp only
    obtain ⟨k, hk⟩ := w64_x (a 20 + b 20)
    obtain ⟨k', hk'⟩ := w64_x (a' 20 + b' 20)
    exact ⟨k', k, by omega⟩
  | succ n ih =>
    intro hn
    obtain ⟨i1, k, k', i2⟩ := ih (by omega)
    have hC := mt_rs_C h2 h5 ha hb n (by omega)
    unfold mt_rs
    by_cases q : mb_t (mt_rs h a b n).1 n = 0
    · have er : (mt_rg h a b n).1 = (mt_rg h a' b' n).1 := by
        obtain ⟨o, t, e1, e2, o0, o1, t0, t1, n1, n2, e3, e4, z1, z2, c⟩ := mt_rg_C h5 ha hb hC (by omega) (by omega) q
        have c1 := mt_r1_d (m := 0) (s := 0) (s' := 0) (t := n) ea eb (by omega) (by omega) (by omega) (by omega)
        have e17 : (mt_r1 h a b 0 0 n).2.2 = t := by show a (b n + h) - h = t; rw [e1]; omega
        unfold mt_rg
        rw [← c1.2, ← c1.1, e17]
        rcases c with c | ⟨nc, o2, f1, f2, p0, p1, k1, k2, k3, f3, f4, yy⟩
        · rw [if_pos c, if_pos c]; exact c1.1
        · rw [if_neg nc, if_neg nc]
          exact (mt_r1_d ea eb t0 (by omega) (by omega) (by omega)).1
      rw [if_pos q, if_pos (by rw [← i1]; exact q)]
      dsimp only
      rw [er, i1]
      refine ⟨rfl, ?_⟩
      obtain ⟨j, hj⟩ := w64_x ((mt_rs h a b n).2.1 + 1)
      obtain ⟨j', hj'⟩ := w64_x ((mt_rs h a' b' n).2.1 + 1)
      exact ⟨k - j, k' - j', by omega⟩
    · rw [if_neg q, if_neg (by rw [← i1]; exact q)]
      exact ⟨i1, k, k', i2⟩
theorem mt_both_20 {h : Int} {a b : Int → Int} : mt_both h a b 20 = (mt_rs h a b h.toNat).2.1 := by unfold mt_both; rw [if_neg (by omega), if_neg (by omega), if_pos rfl]
theorem mt_both_d {h : Int} {a b a' b' : Int → Int} (h2 : 0 ≤ h) (h5 : h ≤ 5) (ha : mt_M h a) (hb : mt_M h b) (ea : mt_eq h a a') (eb : mt_eq h b b') : mt_eq h (mt_both h a b) (mt_both h a' b') ∧ ∃ k k', mt_both h a b 20 - (a 20 + b 20) + 18446744073709551616 * k = mt_both h a' b' 20 - (a' 20 + b' 20) + 18446744073709551616 * k' := by
  refine ⟨fun e e0 e1 => ?_, ?_⟩
  · rw [mt_eq_both h5 e e0 e1, mt_eq_both h5 e e0 e1]
    unfold mt_prod
    rw [mt_eq_out ea eb _ _ (mt_s_all e0 e1).1]
  · rw [mt_both_20, mt_both_20]
    exact (mt_rs_d h2 h5 ha hb ea eb h.toNat (by omega)).2
/-- the powers of v -/
def mt_pp (h : Int) (v : Int → Int) : Nat → Int → Int
  | 0 => v
  | n + 1 => mt_both h (mt_pp h v n) v
theorem mt_pp_M {h : Int} {v : Int → Int} (h5 : h ≤ 5) (hv : mt_M h v) : ∀ n, mt_M h (mt_pp h v n) := fun n => by
  induction n with
  | zero => exact hv
  | succ n ih => exact mt_both_M h5 ih hv
theorem mt_pp_ok {h : Int} {v : Int → Int} (h5 : h ≤ 5) (hv : mt_ok h v) : ∀ n, mt_ok h (mt_pp h v n) := fun n => by
  induction n with
  | zero => exact hv
  | succ n ih => exact mt_both_ok h5 ih.2.2.1
def mt_plo (h : Int) (v cl : Int → Int) (n : Nat) : Int := w64 (mt_pp h v n 20 + mt_cl h (mt_pp h v n) cl)
theorem mt_lf_c {h : Int} {α α' β : Int → Int} {e : Int} (ha : mt_M h α) (hb : mt_M h β) (ea : mt_eq h α α') : ∀ (F : Nat) (a m : Int), 0 ≤ a → a < 2 * h → mt_lf α β e F a m = mt_lf α' β e F a m := by
  intro F
  induction F with
  | zero => intro a m a0 a1; rfl
  | succ F ih =>
    intro a m a0 a1
    have x := ha a a0 a1
    have y := hb (α a) x.1 x.2.1
    unfold mt_lf
    rw [← ea a a0 a1, ih (β (α a)) _ y.1 y.2.1]
theorem mt_lbs_c {h : Int} {α α' β : Int → Int} (ha : mt_M h α) (hb : mt_M h β) (ea : mt_eq h α α') : ∀ n : Nat, (n : Int) ≤ 2 * h → mt_lbs α β n = mt_lbs α' β n := by
  intro n
  induction n with
  | zero => intro _; rfl
  | succ n ih =>
    intro hn
    unfold mt_lbs
    rw [ih (by omega)]
    unfold mt_lm
    rw [mt_lf_c ha hb ea 11 n 0 (by omega) (by omega)]
theorem mt_cl_c {h : Int} {α α' β : Int → Int} (h0 : 0 ≤ h) (ha : mt_M h α) (hb : mt_M h β) (ea : mt_eq h α α') : mt_cl h α β = mt_cl h α' β := by
  unfold mt_cl; rw [mt_lbs_c ha hb ea _ (by omega)]
/-- from a power that has come before on, all go on alike -/
theorem mt_pp_d {h : Int} {v : Int → Int} (h2 : 0 ≤ h) (h5 : h ≤ 5) (hv : mt_M h v) (ov : mt_ok h v) {a b : Nat} (e : mt_eq h (mt_pp h v a) (mt_pp h v b)) : ∀ n : Nat, mt_eq h (mt_pp h v (a + n)) (mt_pp h v (b + n)) ∧ w64 (mt_pp h v (a + n) 20 - mt_pp h v a 20) = w64 (mt_pp h v (b + n) 20 - mt_pp h v b 20) := by
  intro n
  induction n with
  | zero => exact ⟨e, by show w64 (mt_pp h v a 20 - mt_pp h v a 20) = w64 (mt_pp h v b 20 - mt_pp h v b 20); rw [Int.sub_self, Int.sub_self]⟩
  | succ n ih =>
    obtain ⟨i1, i2⟩ := ih
    obtain ⟨d1, k, k', d2⟩ := mt_both_d h2 h5 (mt_pp_M h5 hv (a + n)) hv i1 (fun _ _ _ => rfl : mt_eq h v v)
    refine ⟨d1, ?_⟩
    show w64 (mt_both h (mt_pp h v (a + n)) v 20 - mt_pp h v a 20) = w64 (mt_both h (mt_pp h v (b + n)) v 20 - mt_pp h v b 20)
    obtain ⟨j, hj⟩ := w64_x (mt_pp h v (a + n) 20 - mt_pp h v a 20)
    obtain ⟨j', hj'⟩ := w64_x (mt_pp h v (b + n) 20 - mt_pp h v b 20)
    exact w64_q (k := (k - k' + j - j')) (by omega)
theorem mt_lo_d {h : Int} {v cl : Int → Int} (h2 : 0 ≤ h) (h5 : h ≤ 5) (hv : mt_M h v) (ov : mt_ok h v) (hc : mt_M h cl) {a b : Nat} (e : mt_eq h (mt_pp h v a) (mt_pp h v b)) (n : Nat) : w64 (mt_plo h v cl (b + n) - mt_plo h v cl (a + n)) = w64 (mt_plo h v cl b - mt_plo h v cl a) := by
  obtain ⟨d1, d2⟩ := mt_pp_d h2 h5 hv ov e n
  have c1 := mt_cl_c h2 (mt_pp_M h5 hv a) hc e
  have c2 := mt_cl_c h2 (mt_pp_M h5 hv (a + n)) hc d1
  unfold mt_plo
  rw [c1, c2]
  obtain ⟨j1, h1⟩ := w64_x (mt_pp h v (a + n) 20 - mt_pp h v a 20)
  obtain ⟨j2, h2⟩ := w64_x (mt_pp h v (b + n) 20 - mt_pp h v b 20)
  obtain ⟨k1, g1⟩ := w64_x (mt_pp h v (a + n) 20 + mt_cl h (mt_pp h v (b + n)) cl)
  obtain ⟨k2, g2⟩ := w64_x (mt_pp h v (b + n) 20 + mt_cl h (mt_pp h v (b + n)) cl)
  obtain ⟨k3, g3⟩ := w64_x (mt_pp h v a 20 + mt_cl h (mt_pp h v b) cl)
  obtain ⟨k4, g4⟩ := w64_x (mt_pp h v b 20 + mt_cl h (mt_pp h v b) cl)
  exact w64_q (k := (k4 - k3 - k2 + k1 + j2 - j1)) (by omega)
