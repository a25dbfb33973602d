/-! crossings and turns: a weave's marks 24 and 25 say whether its TEXT has one -/
def mt_cw (v : Int → Int) (X U : Int) : Prop := 0 ≤ X ∧ 0 ≤ U ∧ (v 24 = 0 ↔ X = 0) ∧ (v 25 = 0 ↔ U = 0)
theorem mt_cw_both {h : Int} {a b : Int → Int} {X U Y V : Int} (ca : mt_cw a X U) (cb : mt_cw b Y V) : mt_cw (mt_both h a b) (X + Y) (U + V) := by
  obtain ⟨a0, a1, a2, a3⟩ := ca
  obtain ⟨b0, b1, b2, b3⟩ := cb
  have e24 : mt_both h a b 24 = (if a 24 = 0 ∧ b 24 = 0 then 0 else 1) := by unfold mt_both; rw [if_neg (by omega), if_neg (by omega), if_neg (by omega), if_neg (by omega), if_neg (by omega), if_neg (by omega), if_pos rfl]
  have e25 : mt_both h a b 25 = (if a 25 = 0 ∧ b 25 = 0 then 0 else 1) := by unfold mt_both; rw [if_neg (by omega), if_neg (by omega), if_neg (by omega), if_neg (by omega), if_neg (by omega), if_neg (by omega), if_neg (by omega)]
  refine ⟨by omega, by omega, ?_, ?_⟩
  · rw [e24]
    by_cases q : a 24 = 0 ∧ b 24 = 0
    · rw [if_pos q]; have := a2.1 q.1; have := b2.1 q.2; constructor <;> intro <;> omega
    · rw [if_neg q]
      refine ⟨fun z => absurd z (by omega), fun z => absurd ⟨a2.2 (by omega), b2.2 (by omega)⟩ q⟩
  · rw [e25]
    by_cases q : a 25 = 0 ∧ b 25 = 0
    · rw [if_pos q]; have := a3.1 q.1; have := b3.1 q.2; constructor <;> intro <;> omega
    · rw [if_neg q]
      refine ⟨fun z => absurd z (by omega), fun z => absurd ⟨a3.2 (by omega), b3.2 (by omega)⟩ q⟩
theorem mt_cw_str {h : Int} : mt_cw (mt_str h) 0 0 := by
  have z : ∀ k : Int, 10 ≤ k → mt_str h k = 0 := fun k hk => by unfold mt_str; rw [if_neg (by omega)]
  exact ⟨by omega, by omega, ⟨fun _ => rfl, fun _ => z _ (by omega)⟩, ⟨fun _ => rfl, fun _ => z _ (by omega)⟩⟩
theorem mt_cw_sgn {h i c : Int} (hc : c = 120 ∨ c = 117) : mt_cw (mt_sgn h i (if c = 117 then 1 else 0)) (mt_sx c) (mt_su c) := by
  unfold mt_cw mt_sgn mt_sx mt_su
  rcases hc with q | q
  · subst q; simp
  · subst q; simp
theorem mt_cw_rp {h : Int} : ∀ (F : Nat) (r : Int) (it bs : Int → Int) (X U Y V : Int), 0 ≤ r → r < ((2 ^ F : Nat) : Int) → mt_cw it X U → mt_cw bs Y V → mt_cw (mt_rp h F r it bs) (X + r * Y) (U + r * V) := by
  intro F
  induction F with
  | zero =>
    intro r it bs X U Y V r0 r1 ci _
    have : ((2 ^ 0 : Nat) : Int) = 1 := rfl
    have : r = 0 := by omega
    subst this
    rw [Int.zero_mul, Int.zero_mul, Int.add_zero, Int.add_zero]; exact ci
  | succ F ih =>
    intro r it bs X U Y V r0 r1 ci cb
    have p2 : ((2 ^ (F + 1) : Nat) : Int) = 2 * ((2 ^ F : Nat) : Int) := by rw [Nat.pow_succ, Int.natCast_mul]; omega
    unfold mt_rp
    by_cases c : r ≤ 0
    · have : r = 0 := by omega
      subst this
      rw [if_pos c, Int.zero_mul, Int.zero_mul, Int.add_zero, Int.add_zero]; exact ci
    · rw [if_neg c]
      have e : r = 2 * (r / 2) + r % 2 := by omega
      by_cases d : r % 2 = 0
      · rw [if_pos d]
        have := ih (r / 2) it (mt_both h bs bs) X U (Y + Y) (V + V) (by omega) (by omega) ci (mt_cw_both cb cb)
        have e2 : ∀ C D : Int, C + r / 2 * (D + D) = C + r * D := fun C D => by
          rw [show r * D = (2 * (r / 2)) * D by rw [show 2 * (r / 2) = r by omega]]
          rw [Int.mul_add, Int.mul_assoc, Int.two_mul]
        rw [e2, e2] at this; exact this
      · rw [if_neg d]
        have := ih (r / 2) (mt_both h it bs) (mt_both h bs bs) (X + Y) (U + V) (Y + Y) (V + V) (by omega) (by omega) (mt_cw_both ci cb) (mt_cw_both cb cb)
        have e2 : ∀ C D : Int, C + D + r / 2 * (D + D) = C + r * D := fun C D => by
          rw [show r * D = (2 * (r / 2) + 1) * D by rw [show 2 * (r / 2) + 1 = r by omega]]
          rw [Int.mul_add, Int.add_mul, Int.mul_assoc, Int.two_mul, Int.one_mul]
          omega
        rw [e2, e2] at this; exact this
theorem mt_cw_rep {h tm : Int} {it : Int → Int} {X U : Int} (t0 : 0 ≤ tm) (t1 : tm < 1000000000) (ci : mt_cw it X U) : mt_cw (mt_rep h tm it) (tm * X) (tm * U) := by
  unfold mt_rep
  by_cases c : tm = 1
  · rw [if_pos c, c, Int.one_mul, Int.one_mul]; exact ci
  · rw [if_neg c]
    have l : ((2 ^ 40 : Nat) : Int) = 1099511627776 := rfl
    have := mt_cw_rp (h := h) 40 tm (mt_str h) it 0 0 X U t0 (by omega) mt_cw_str ci
    rw [Int.zero_add, Int.zero_add] at this
    exact this
theorem mt_cw_we {t : Int → Int} {n h w : Int} {mk : Int → Int → Int} {cx cu : Int → Int} (n0 : 0 ≤ n) (em : ∀ v, 0 ≤ v → v < w → mt_cw (mk v) (cx v) (cu v)) : ∀ (F : Nat) (i d need : Int) (S : Int → Int → Int) (C D : Int → Int), 0 ≤ i → i ≤ n → 0 ≤ d → (∀ k, 0 ≤ k → k ≤ d → mt_cw (S k) (C k) (D k)) → mt_gr t n h w F i d need = 0 → mt_cw (mt_we t n h mk F i d S) (mt_ct t n mt_sx cx F i d C) (mt_ct t n mt_su cu F i d D) := by
  intro F
  induction F with
  | zero => intro i d need S C D _ _ d0 hS _; exact hS 0 (by omega) d0
  | succ F ih =>
    intro i d need S C D i0 i1 d0 hS g
    have st : ∀ (d' : Int) (it : Int → Int) (x y tm : Int), 0 ≤ d' → d' ≤ d → 0 ≤ tm → tm < 1000000000 → mt_cw it x y → ∀ k, 0 ≤ k → k ≤ d' → mt_cw (mt_set S d' (mt_both h (S d') (mt_rep h tm it)) k) (mt_st C d' (C d' + tm * x) k) (mt_st D d' (D d' + tm * y) k) := by
      intro d' it x y tm e0 e1 t0 t1 ci k k0 k1
      unfold mt_set mt_st
      by_cases q : k = d'
      · rw [if_pos q, if_pos q, if_pos q]; exact mt_cw_both (hS d' e0 e1) (mt_cw_rep t0 t1 ci)
      · rw [if_neg q, if_neg q, if_neg q]; exact hS k k0 (by omega)
    unfold mt_we mt_ct
    rcases mt_gr_c n0 i0 g with z | z | z | z | z
    · rw [if_pos z.1, if_pos z.1, if_pos z.1]; exact hS 0 (by omega) d0
    · rw [if_neg (show ¬ n ≤ i by omega), if_neg (show ¬ n ≤ i by omega), if_neg (show ¬ n ≤ i by omega), if_pos z.2.1, if_pos z.2.1, if_pos z.2.1]
      refine ih _ _ 1 _ _ _ (by omega) (by omega) (by omega) (fun k k0 k1 => ?_) z.2.2.2
      unfold mt_set mt_st
      by_cases q : k = d + 1
      · rw [if_pos q, if_pos q, if_pos q]; exact mt_cw_str
      · rw [if_neg q, if_neg q, if_neg q]; exact hS k k0 (by omega)
    · obtain ⟨z1, z2, z3, z4, z5, z6⟩ := z
      have r := mt_tn_r (t := t) (n := n) (i := i + 1) (by omega)
      have rt := mt_tm_r (t := t) (n := n) (i := i + 1) (by omega) z5
      rw [if_neg (show ¬ n ≤ i by omega), if_neg (show ¬ n ≤ i by omega), if_neg (show ¬ n ≤ i by omega), if_neg (show ¬ t i = 40 by omega), if_neg (show ¬ t i = 40 by omega), if_neg (show ¬ t i = 40 by omega), if_pos z2, if_pos z2, if_pos z2]
      exact ih _ _ 0 _ _ _ (by omega) r.2 (by omega) (st (d - 1) (S d) (C d) (D d) _ (by omega) (by omega) rt.1 rt.2 (hS d d0 (by omega))) z6
    · obtain ⟨z1, z2, z3, z4, z5, z6, z7, z8⟩ := z
      have r := mt_tn_r (t := t) (n := n) (i := i + 2) (by omega)
      have rt := mt_tm_r (t := t) (n := n) (i := i + 2) (by omega) z7
      rw [if_neg (show ¬ n ≤ i by omega), if_neg (show ¬ n ≤ i by omega), if_neg (show ¬ n ≤ i by omega), if_neg (show ¬ t i = 40 by omega), if_neg (show ¬ t i = 40 by omega), if_neg (show ¬ t i = 40 by omega), if_neg (show ¬ t i = 41 by omega), if_neg (show ¬ t i = 41 by omega), if_neg (show ¬ t i = 41 by omega), if_pos z2, if_pos z2, if_pos z2]
      exact ih _ _ 0 _ _ _ (by omega) r.2 d0 (st d _ _ _ _ d0 (by omega) rt.1 rt.2 (mt_cw_sgn z2)) z8
    · obtain ⟨z1, z2, z3, z4, z5, z6⟩ := z
      have r := mt_tn_r (t := t) (n := n) (i := i + 1) (by omega)
      have rt := mt_tm_r (t := t) (n := n) (i := i + 1) (by omega) z5
      rw [if_neg (show ¬ n ≤ i by omega), if_neg (show ¬ n ≤ i by omega), if_neg (show ¬ n ≤ i by omega), if_neg (show ¬ t i = 40 by omega), if_neg (show ¬ t i = 40 by omega), if_neg (show ¬ t i = 40 by omega), if_neg (show ¬ t i = 41 by omega), if_neg (show ¬ t i = 41 by omega), if_neg (show ¬ t i = 41 by omega), if_neg (show ¬ (t i = 120 ∨ t i = 117) by omega), if_neg (show ¬ (t i = 120 ∨ t i = 117) by omega), if_neg (show ¬ (t i = 120 ∨ t i = 117) by omega)]
      exact ih _ _ 0 _ _ _ (by omega) r.2 d0 (st d _ _ _ _ d0 (by omega) rt.1 rt.2 (em (t i - 65) (by omega) z4)) z6
theorem mt_cw_mk {h : Int} {T : Int → Int → Int} {sz : Int → Int} : ∀ (w : Nat), w < 16 → (∀ v : Nat, v ≤ w → mt_good h v (T v) (sz v)) → mt_cw (mt_mk h T sz w) (mt_cn mt_sx T sz w) (mt_cn mt_su T sz w) := by
  intro w
  induction w using Nat.strongRecOn with
  | ind w ih =>
    intro hw hg
    have g := hg w (Nat.le_refl w)
    rw [mt_mk_e hw g, mt_cn_e hw g, mt_cn_e hw g]
    refine mt_cw_we (w := w) (by have := g.1; omega) (fun v v0 v1 => ?_) _ _ _ 1 _ _ _ (Int.le_refl 0) (by have := g.1; omega) (Int.le_refl 0) (fun k _ _ => mt_cw_str) g.2.2.2
    have := ih v.toNat (by omega) (by omega) (fun u hu => hg u (by omega))
    rw [show ((v.toNat : Nat) : Int) = v by omega] at this
    exact this
/-- so that both sides answer is alike -/
theorem m_is2 {Q : Int → ml_St → Prop} {h told ts cap w x : Int} {tb cl pr sz : Int → Int} {T : Int → Int → Int} {τ : ml_St} (i : IM h told ts cap tb cl pr sz T τ) (k1 : 0 ≤ w → w < told → 0 ≤ x → x ≤ 3 → Q (if x = 0 then (if mt_mk h T sz w 24 = 0 then 1 else 0) else if x = 1 then (if mt_mk h T sz w 25 = 0 then 1 else 0) else if x = 2 then (if mt_pl (T w) (sz w).toNat = 0 then 0 else 1) else (if mt_mk h T sz w 23 ≤ mt_mst then 0 else 1)) τ) (k0 : ¬ ((0 ≤ w ∧ w < told) ∧ 0 ≤ x ∧ x ≤ 3) → Q (-1) τ) : f_X12_is τ w x Q := by
  refine m_is i (fun w0 w1 x0 x3 => ?_) k0
  have t16 := i.1.2.2.2.2.2
  have iT := IM_T i
  have c := mt_cw_mk (h := h) (T := T) (sz := sz) w.toNat (by omega) (fun v hv => iT v (by omega))
  rw [show ((w.toNat : Nat) : Int) = w by omega] at c
  obtain ⟨c0, c1, c2, c3⟩ := c
  have k := k1 w0 w1 x0 x3
  have e1 : (if mt_cn mt_sx T sz w = 0 then (1 : Int) else 0) = if mt_mk h T sz w 24 = 0 then 1 else 0 := by
    by_cases q : mt_mk h T sz w 24 = 0
    · rw [if_pos q, if_pos (c2.1 q)]
    · rw [if_neg q, if_neg (fun z => q (c2.2 z))]
  have e2 : (if mt_cn mt_su T sz w = 0 then (1 : Int) else 0) = if mt_mk h T sz w 25 = 0 then 1 else 0 := by
    by_cases q : mt_mk h T sz w 25 = 0
    · rw [if_pos q, if_pos (c3.1 q)]
    · rw [if_neg q, if_neg (fun z => q (c3.2 z))]
  rw [e1, e2]
  exact k
