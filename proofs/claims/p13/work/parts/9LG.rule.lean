/-! the rule: both sides answer alike -/
def mq_h (h : Int) (v cl : Int → Int) : Prop := 2 ≤ h ∧ h ≤ 5 ∧ mt_M h v ∧ mt_ok h v ∧ mt_M h cl ∧ 0 ≤ v 20 ∧ v 20 ≤ 5000000000000
/-- what small powers leave -/
theorem mq_lv_s {h : Int} {v cl : Int → Int} {a n : Nat} (H : mq_h h v cl) (an : a < n) (e : mt_eq h (mt_pp h v a) (mt_pp h v n)) {x : Nat} (hx : x ≤ 2000) : mq_lv h v cl a n ((x : Int) + 1) = mt_plo h v cl x := by
  obtain ⟨h2, h5, hv, ov, hc, v0, v1⟩ := H
  obtain ⟨f1, f2, f3⟩ := mt_plo_r (by omega) h5 hv hc v0 v1 hx
  have md := Int.mul_ediv_add_emod ((x : Int) + 1 - 1 - a) ((n : Int) - a)
  have m0 := Int.emod_nonneg ((x : Int) + 1 - 1 - a) (show (n : Int) - a ≠ 0 by omega)
  have m1 := Int.emod_lt_of_pos ((x : Int) + 1 - 1 - a) (show 0 < (n : Int) - a by omega)
  unfold mq_lv
  rw [show ((x : Int) + 1 - 1).toNat = x by omega]
  by_cases z : (x : Int) + 1 ≤ a
  · rw [if_pos z]; unfold mt_top; omega
  · rw [if_neg z]
    have d0 := Int.ediv_nonneg (show 0 ≤ (x : Int) + 1 - 1 - a by omega) (show 0 ≤ (n : Int) - a by omega)
    generalize ((x : Int) + 1 - 1 - (a : Int)) % (n - a) = r at *
    generalize ((x : Int) + 1 - 1 - (a : Int)) / (n - a) = y at *
    have ey : ((y.toNat * (n - a) : Nat) : Int) = (n - a) * y := by
      rw [Int.natCast_mul, show ((n - a : Nat) : Int) = (n : Int) - a by omega, show ((y.toNat : Nat) : Int) = y by omega, Int.mul_comm]
    have j := mt_plo_j (by omega) h5 hv ov hc v0 v1 (Nat.le_of_lt an) e r.toNat y.toNat (by omega)
    rw [show a + r.toNat + y.toNat * (n - a) = x by omega, show ((y.toNat : Nat) : Int) = y by omega] at j
    rw [← j]; unfold mt_top; omega
/-- L grows by one number over p, from the index on -/
def mr_D (h : Int) (v cl : Int → Int) (a n p : Nat) : Prop := ∀ j : Nat, j < n - a → mt_plo h v cl (a + j + p) - mt_plo h v cl (a + j) = mt_plo h v cl (a + p) - mt_plo h v cl a
theorem mr_D_n {h : Int} {v cl : Int → Int} {a n : Nat} (H : mq_h h v cl) (an : a < n) (n9 : n ≤ 945) (e : mt_eq h (mt_pp h v a) (mt_pp h v n)) : mr_D h v cl a n (n - a) := by
  obtain ⟨h2, h5, hv, ov, hc, v0, v1⟩ := H
  intro j hj
  have g := (mt_plo_g (by omega) h5 hv ov hc v0 v1 (Nat.le_of_lt an) e j (by omega)).1
  rw [show a + j + (n - a) = n + j by omega, g, show a + (n - a) = n by omega]; omega
def mr (h : Int) (v cl : Int → Int) (a n s m : Nat) (g : Int) : Prop := 1 ≤ s ∧ s ≤ n - a ∧ mr_D h v cl a n s ∧ (∀ p, 1 ≤ p → p < s → ¬ mr_D h v cl a n p) ∧ g = mt_plo h v cl (a + s) - mt_plo h v cl a ∧ m ≤ a ∧ (∀ j, m ≤ j → j < a → mt_plo h v cl (j + s) - mt_plo h v cl j = g) ∧ (m = 0 ∨ mt_plo h v cl (m - 1 + s) - mt_plo h v cl (m - 1) ≠ g)
theorem mr_u {h : Int} {v cl : Int → Int} {a n s m s' m' : Nat} {g g' : Int} (x : mr h v cl a n s m g) (y : mr h v cl a n s' m' g') : s = s' ∧ m = m' ∧ g = g' := by
  obtain ⟨x1, x2, x3, x4, x5, x6, x7, x8⟩ := x
  obtain ⟨y1, y2, y3, y4, y5, y6, y7, y8⟩ := y
  have s1 : s = s' := by
    rcases Nat.lt_trichotomy s s' with z | z | z
    · exact absurd x3 (y4 s x1 z)
    · exact z
    · exact absurd y3 (x4 s' y1 z)
  subst s1
  have g1 : g = g' := by rw [x5, y5]
  subst g1
  refine ⟨rfl, ?_, rfl⟩
  rcases Nat.lt_trichotomy m m' with z | z | z
  · have q := y8.resolve_left (by omega)
    exact absurd (x7 (m' - 1) (by omega) (by omega)) q
  · exact z
  · have q := x8.resolve_left (by omega)
    exact absurd (y7 (m - 1) (by omega) (by omega)) q
/-- the class: growth -/
theorem s_growth_x {Q : Int → ml_St → Prop} {h : Int} {v cl : Int → Int} {a n : Nat} {σ : ml_St} (H : mq_h h v cl) (p : mq_q h v cl a n σ) (x y : Nat) (xy : x + y ≤ 1900) (k : Q (mt_plo h v cl (x + y) - mt_plo h v cl x) σ) : f_X6_growth σ ((x : Int) + 1) y Q := by
  have H' := H
  obtain ⟨h2, h5, hv, ov, hc, v0, v1⟩ := H
  have r1 := mt_plo_r (n := x + y) (by omega) h5 hv hc v0 v1 (by omega)
  have r2 := mt_plo_r (n := x) (by omega) h5 hv hc v0 v1 (by omega)
  unfold f_X6_growth f_X6_growth_u0
  refine ⟨mt_I (by omega) (by omega), ?_⟩
  refine s_loopsOf_x (by omega) h5 hv ov hc v0 v1 p (by omega) (by omega) (fun _ => s_loopsOf_x (by omega) h5 hv ov hc v0 v1 p (by omega) (by omega) (fun _ => ?_))
  have e1 := mq_lv_s (cl := cl) H' p.1 p.2.2.2.2.2.2.1 (x := x + y) (by omega)
  have e2 := mq_lv_s (cl := cl) H' p.1 p.2.2.2.2.2.2.1 (x := x) (by omega)
  rw [show (x : Int) + 1 + y = ((x + y : Nat) : Int) + 1 by omega, e1, e2, w64_id ⟨by omega, by omega⟩]
  exact k
theorem s_isEven_x {Q : Int → ml_St → Prop} {h : Int} {v cl : Int → Int} {a n : Nat} {σ : ml_St} (H : mq_h h v cl) (p : mq_q h v cl a n σ) (x : Nat) (x0 : 1 ≤ x) (x1 : x ≤ n - a) (k1 : mr_D h v cl a n x → Q 1 σ) (k0 : ¬ mr_D h v cl a n x → Q 0 σ) : f_X6_isEven σ x Q := by
  have p' := p
  obtain ⟨p1, p2, p3, p4, p5, p6, p7, p8⟩ := p
  have L : ∀ (N : Nat) (x2 : Int) (j : Nat), ((x2 = 1 ∧ (∀ i, i < j → mt_plo h v cl (a + i + x) - mt_plo h v cl (a + i) = mt_plo h v cl (a + x) - mt_plo h v cl a)) ∨ (x2 = 0 ∧ ¬ mr_D h v cl a n x)) → 1 ≤ j → j ≤ n - a → n - a - j < N → f_X6_isEven_u9 Q (f_X6_isEven_u57 Q) N σ x x2 ((a : Int) + 1 + j) := by
    intro N
    induction N with
    | zero => intro x2 j _ n0 n1 hN; omega
    | succ N ih =>
      intro x2 j hx n0 n1 hN
      unfold f_X6_isEven_u9
      rw [p3, p4]
      have nx : ∀ s, ((s = 1 ∧ (∀ i, i < j + 1 → mt_plo h v cl (a + i + x) - mt_plo h v cl (a + i) = mt_plo h v cl (a + x) - mt_plo h v cl a)) ∨ (s = 0 ∧ ¬ mr_D h v cl a n x)) → j < n - a → f_X6_isEven_u50 Q (f_X6_isEven_u9 Q (f_X6_isEven_u57 Q) N) σ x ((a : Int) + 1 + j) s := by
        intro s hs hn
        unfold f_X6_isEven_u50
        refine ⟨mt_i (by omega) (by omega), fun y1 e1 => ?_⟩
        rw [e1, show (a : Int) + 1 + j + 1 = a + 1 + ((j + 1 : Nat) : Int) by omega]
        exact ih s (j + 1) hs (by omega) (by omega) (by omega)
      refine fun _ _ => ⟨mt_i (by omega) (by omega), fun c => ?_, fun c => ⟨fun z => ?_, fun z => ?_⟩⟩
      · unfold f_X6_isEven_u57
        rcases hx with ⟨e, hx⟩ | ⟨e, hx⟩
        · rw [e]; exact k1 (fun i hi => hx i (by omega))
        · rw [e]; exact k0 hx
      · unfold f_X6_isEven_u49
        rcases hx with ⟨e, hx⟩ | ⟨e, hx⟩
        · omega
        · exact nx 0 (Or.inr ⟨rfl, hx⟩) (by omega)
      · rcases hx with ⟨e, hx⟩ | ⟨e, hx⟩
        · rw [show (a : Int) + 1 + j = ((a + j : Nat) : Int) + 1 by omega]
          refine s_growth_x H p' (a + j) x (by omega) (fun _ _ => ?_)
          rw [p3]
          refine s_growth_x H p' a x (by omega) (fun _ => ⟨fun ne => ?_, fun eq => ?_⟩)
          · unfold f_X6_isEven_u49
            rw [show ((a + j : Nat) : Int) + 1 = (a : Int) + 1 + j by omega]
            exact nx 0 (Or.inr ⟨rfl, fun d => ne (d j (by omega))⟩) (by omega)
          · rw [show ((a + j : Nat) : Int) + 1 = (a : Int) + 1 + j by omega]
            refine nx 1 (Or.inl ⟨rfl, fun i hi => ?_⟩) (by omega)
            by_cases q : i = j
            · subst q; exact eq
            · exact hx i (by omega)
        · omega
  unfold f_X6_isEven f_X6_isEven_u0
  rw [p3]
  refine fun _ => ⟨mt_i (by omega) (by omega), fun y3 e3 => ⟨200, ?_⟩⟩
  have := L 200 1 1 (Or.inl ⟨rfl, fun i hi => by rw [show i = 0 by omega]; rfl⟩) (by omega) (by omega) (by omega)
  rw [e3]; exact this
theorem mq_q_k {h : Int} {v cl : Int → Int} {a n : Nat} {σ σ' : ml_St} (e4 : σ' 46 4 = σ 46 4) (e5 : σ' 46 5 = σ 46 5) (e6 : σ' 46 6 = σ 46 6) (e : σ' 48 = σ 48) (p : mq_q h v cl a n σ) : mq_q h v cl a n σ' := by
  unfold mq_q at *
  rw [e4, e5, e6, e]; exact p
theorem s_findRule_x {Q : ml_St → Prop} {h : Int} {v cl : Int → Int} {a n : Nat} {σ0 : ml_St} (H : mq_h h v cl) (p : mq_q h v cl a n σ0) (k : ∀ σ (s m : Nat) (g : Int), mt_f46 σ0 σ → mq_q h v cl a n σ → σ 46 7 = s → σ 46 8 = g → σ 46 9 = m + 1 → mr h v cl a n s m g → Q σ) : f_X6_findRule σ0 Q := by
  have an := p.1
  have n6 := p.2.1
  have en := p.2.2.2.2.2.2.1
  have S : ∀ (N : Nat) (s m : Nat) (g : Int) (σ : ml_St), mt_f46 σ0 σ → mq_q h v cl a n σ → σ 46 7 = s → σ 46 8 = g → σ 46 9 = m + 1 → 1 ≤ s → s ≤ n - a → mr_D h v cl a n s → (∀ p, 1 ≤ p → p < s → ¬ mr_D h v cl a n p) → g = mt_plo h v cl (a + s) - mt_plo h v cl a → m ≤ a → (∀ j, m ≤ j → j < a → mt_plo h v cl (j + s) - mt_plo h v cl j = g) → m < N → f_X6_findRule_u64 Q (f_X6_findRule_u107 Q) N σ := by
    intro N
    induction N with
    | zero => intro s m g σ _ _ _ _ _ _ _ _ _ _ _ _ hN; omega
    | succ N ih =>
      intro s m g σ f pq e7 e8 e9 s1 s2 d1 d2 eg ma hm hN
      unfold f_X6_findRule_u64
      unfold f_X6_findRule_u107
      rw [e9, e7]
      have fin : (m = 0 ∨ mt_plo h v cl (m - 1 + s) - mt_plo h v cl (m - 1) ≠ g) → Q σ := fun z => k σ s m g f pq e7 e8 e9 ⟨s1, s2, d1, d2, eg, ma, hm, z⟩
      refine fun _ => ⟨fun c => fin (Or.inl (by omega)), fun c _ => ⟨mt_i (by omega) (by omega), fun _ => ?_⟩⟩
      rw [show (m : Int) + 1 - 1 = ((m - 1 : Nat) : Int) + 1 by omega]
      refine s_growth_x H pq (m - 1) s (by omega) (fun _ _ => ?_)
      rw [e8, e9]
      refine ⟨fun ne => fin (Or.inr ne), fun eq _ => ⟨mt_i (by omega) (by omega), fun σ11 s11 => ?_⟩⟩
      have o : ∀ b, b ≠ 9 → σ11 46 b = σ 46 b := fun b hb => by rw [s11, ml_up_i hb]
      refine ih s (m - 1) g σ11 (mt_f46_t f (by rw [s11]; exact mt_f46_up (by omega) (by omega))) (mq_q_k (o 4 (by omega)) (o 5 (by omega)) (o 6 (by omega)) (by rw [s11, ml_up_k (by omega)]) pq) (by rw [o 7 (by omega), e7]) (by rw [o 8 (by omega), e8]) (by rw [s11, ml_up_same]; omega) s1 s2 d1 d2 eg (by omega) (fun j j1 j2 => ?_) (by omega)
      by_cases q : j = m - 1
      · subst q; exact eq
      · exact hm j (by omega) j2
  have U40 : ∀ (s : Nat) (σ : ml_St), mt_f46 σ0 σ → mq_q h v cl a n σ → σ 46 7 = s → 1 ≤ s → s ≤ n - a → mr_D h v cl a n s → (∀ p, 1 ≤ p → p < s → ¬ mr_D h v cl a n p) → f_X6_findRule_u40 Q σ := by
    intro s σ f pq e7 s1 s2 d1 d2
    unfold f_X6_findRule_u40
    rw [pq.2.2.1, e7]
    refine fun _ _ => s_growth_x H pq a s (by omega) (fun _ σ4 s4 _ σ6 s6 => ⟨100, ?_⟩)
    have o4 : ∀ b, b ≠ 8 → σ4 46 b = σ 46 b := fun b hb => by rw [s4, ml_up_i hb]
    have o6 : ∀ b, b ≠ 9 → σ6 46 b = σ4 46 b := fun b hb => by rw [s6, ml_up_i hb]
    have f6 : mt_f46 σ σ6 := by rw [s6, s4]; exact mt_f46_t (mt_f46_up (by omega) (by omega)) (mt_f46_up (by omega) (by omega))
    refine S 100 s a _ σ6 (mt_f46_t f f6) (mq_q_k ?_ ?_ ?_ ?_ pq) ?_ ?_ ?_ s1 s2 d1 d2 rfl (Nat.le_refl a) (fun j j1 j2 => by omega) (by omega)
    · rw [o6 4 (by omega), o4 4 (by omega)]
    · rw [o6 5 (by omega), o4 5 (by omega)]
    · rw [o6 6 (by omega), o4 6 (by omega)]
    · rw [s6, ml_up_k (by omega), s4, ml_up_k (by omega)]
    · rw [o6 7 (by omega), o4 7 (by omega), e7]
    · rw [o6 8 (by omega), s4, ml_up_same]
    · rw [s6, ml_up_same, o4 4 (by omega), pq.2.2.1]
  have L : ∀ (N : Nat) (s : Nat) (σ : ml_St), mt_f46 σ0 σ → mq_q h v cl a n σ → σ 46 7 = s → 1 ≤ s → s ≤ n - a → (∀ p, 1 ≤ p → p < s → ¬ mr_D h v cl a n p) → n - a - s < N → f_X6_findRule_u5 Q (f_X6_findRule_u40 Q) N σ := by
    intro N
    induction N with
    | zero => intro s σ _ _ _ _ _ _ hN; omega
    | succ N ih =>
      intro s σ f pq e7 s1 s2 d2 hN
      unfold f_X6_findRule_u5
      rw [e7, pq.2.2.2.1]
      refine fun _ _ => ⟨fun c => ?_, fun c _ => s_isEven_x H pq s s1 s2 (fun d _ => ⟨fun _ => U40 s σ f pq e7 s1 s2 d d2, fun z => absurd z (by omega)⟩) (fun d _ => ⟨fun z => absurd rfl z, fun _ => ?_⟩)⟩
      · have : s = n - a := by omega
        subst this
        exact U40 (n - a) σ f pq e7 s1 s2 (mr_D_n H an (by omega) en) d2
      · rw [e7]
        refine fun _ => ⟨mt_i (by omega) (by omega), fun σ9 s9 => ?_⟩
        have o : ∀ b, b ≠ 7 → σ9 46 b = σ 46 b := fun b hb => by rw [s9, ml_up_i hb]
        refine ih (s + 1) σ9 (mt_f46_t f (by rw [s9]; exact mt_f46_up (by omega) (by omega))) (mq_q_k (o 4 (by omega)) (o 5 (by omega)) (o 6 (by omega)) (by rw [s9, ml_up_k (by omega)]) pq) (by rw [s9, ml_up_same]; omega) (by omega) (by omega) (fun q q1 q2 => ?_) (by omega)
        by_cases z : q = s
        · subst z; exact d
        · exact d2 q q1 (by omega)
  unfold f_X6_findRule f_X6_findRule_u0
  intro σ1 s1
  have o : ∀ b, b ≠ 7 → σ1 46 b = σ0 46 b := fun b hb => by rw [s1, ml_up_i hb]
  exact ⟨100, L 100 1 σ1 (by rw [s1]; exact mt_f46_up (by omega) (by omega)) (mq_q_k (o 4 (by omega)) (o 5 (by omega)) (o 6 (by omega)) (by rw [s1, ml_up_k (by omega)]) p) (by rw [s1, ml_up_same]; rfl) (by omega) (by omega) (fun q q1 q2 => by omega) (by omega)⟩
def mr_an (s m : Nat) (g x : Int) : Int := if x = 0 then (s : Int) else if x = 1 then g else (m : Int) + 1
theorem c_rule_x {Q : Int → ml_St → Prop} {h told ts cap w x : Int} {tb cl pr sz : Int → Int} {T : Int → Int → Int} {σ0 : ml_St} (nb : mq_64) (i : IC h told ts cap tb cl pr sz T σ0) (k1 : mt_md told (mt_mk h T sz) w → 0 ≤ x → x ≤ 2 → ∀ σ (a n s m : Nat) (g : Int), IC h told ts cap tb cl pr sz T σ → (∀ j, 215 ≤ j → σ j = σ0 j) → mq_q h (mt_mk h T sz w) cl a n σ → mr h (mt_mk h T sz w) cl a n s m g → Q (mr_an s m g x) σ) (k0 : ¬ (mt_md told (mt_mk h T sz) w ∧ 0 ≤ x ∧ x ≤ 2) → Q (-1) σ0) : f_X11_rule σ0 w x Q := by
  have t16 := i.1.2.2.2.2.2
  unfold f_X11_rule f_X11_rule_u0
  unfold f_X11_rule_u17 f_X11_rule_u88
  refine c_isMade i (fun q _ => ⟨fun z => absurd z (by omega), fun _ => ⟨fun _ => k0 (by omega), fun x0 => ⟨fun x1 => ⟨q.1, by have := q.2.1; omega, fun _ => ?_⟩, fun _ => k0 (by omega)⟩⟩⟩) (fun q _ => ⟨fun _ => k0 (fun z => q z.1), fun z => absurd rfl z⟩)
  obtain ⟨g1, g2, g3, g4⟩ := IC_w i q.1 q.2.1
  have c := i.2.2.1
  have cv := IC_cv i q.1 q.2.1
  have b20 := mq_20 cv q.2.2
  have h2 := i.1.2.2.1
  have h5 := i.1.2.2.2.1
  rw [i.1.1, show 119 + 6 * w + 2 = 121 + 6 * w by omega]
  refine s_study_x h2 h5 (Or.inr (by have := q.1; omega)) (by have := q.1; omega) g3 g2 c.2.2.2.1 c.2.2.1 (nb h _ h2 h5 g3) (fun σ a n f p => ?_)
  refine s_findRule_x ⟨h2, h5, g3, g4, c.2.2.2.1, b20.1, b20.2⟩ p (fun σ2 s m g f2 p2 e7 e8 e9 hr => ?_)
  have f' := mt_f46_kp (mt_f46_t f f2)
  have kk := k1 q (by omega) (by omega) σ2 a n s m g (IC_kp f' i) (mt_kp_m f') p2 hr
  rw [e7, e8, e9]
  unfold mr_an at kk
  refine ⟨fun z0 => ⟨fun z1 _ => ?_, fun z1 _ => ?_⟩, fun z0 _ => ?_⟩
  · rw [if_neg z0, if_neg z1] at kk; exact kk
  · rw [if_neg z0, if_pos z1] at kk; exact kk
  · rw [if_pos z0] at kk; exact kk
/-- the model -/
theorem s_isRule_x {Q : Int → ml_St → Prop} {h : Int} {v cl : Int → Int} {a n : Nat} {σ : ml_St} (H : mq_h h v cl) (pp : mq_p h v cl a n σ) (p : Nat) (p0 : 1 ≤ p) (p1 : p ≤ n - a) (k1 : mr_D h v cl a n p → Q 1 σ) (k0 : ¬ mr_D h v cl a n p → Q 0 σ) : f_X12_isRule σ p Q := by
  obtain ⟨h2, h5, hv, ov, hc, v0, v1⟩ := H
  obtain ⟨q1, q2, q3, q4, q5, q6, q7, q8, q9⟩ := pp
  have R := fun j (hj : j ≤ 2000) => mt_plo_r (n := j) (by omega) h5 hv hc v0 v1 hj
  have ra := R a (by omega)
  have rp := R (a + p) (by omega)
  have xa := q7 a (by omega)
  have xp := q7 (a + p) (by omega)
  unfold f_X12_isRule f_X12_isRule_u0
  rw [q3]
  refine fun _ => ⟨mt_I (by omega) (by omega), by omega, by omega, fun _ _ => ⟨by omega, by omega, fun _ y7 e7 _ y9 e9 => ⟨1000, ?_⟩⟩⟩
  subst e9
  rw [show (a : Int) + 1 + p = ((a + p : Nat) : Int) + 1 by omega, xa, xp, w64_id ⟨by omega, by omega⟩] at e7
  have L : ∀ (N : Nat) (j : Nat), j ≤ n - a → n - a - j < N → (∀ i, i < j → mt_plo h v cl (a + i + p) - mt_plo h v cl (a + i) = mt_plo h v cl (a + p) - mt_plo h v cl a) → f_X12_isRule_u28 Q (f_X12_isRule_u64 Q) (f_X12_isRule_u72 Q) N σ p y7 (a + 1 + j) := by
    intro N
    induction N with
    | zero => intro j j0 hN; omega
    | succ N ih =>
      intro j j0 hN hj
      unfold f_X12_isRule_u28
      rw [q3, q4]
      refine fun _ _ => ⟨mt_I (by omega) (by omega), fun c => ?_, fun c => ?_⟩
      · unfold f_X12_isRule_u72; exact k1 (fun i hi => hj i (by omega))
      · have x1 := q7 (a + j + p) (by omega)
        have x2 := q7 (a + j) (by omega)
        have r1 := R (a + j + p) (by omega)
        have r2 := R (a + j) (by omega)
        rw [show (a : Int) + 1 + j + p = ((a + j + p : Nat) : Int) + 1 by omega, show (a : Int) + 1 + j = ((a + j : Nat) : Int) + 1 by omega, x1, x2, w64_id ⟨by omega, by omega⟩]
        refine ⟨mt_I (by omega) (by omega), by omega, by omega, fun _ => ⟨by omega, by omega, fun _ => ⟨fun eq => ⟨mt_I (by omega) (by omega), fun y e => ?_⟩, fun ne => ?_⟩⟩⟩
        · have := ih (j + 1) (by omega) (by omega) (fun i hi => by
            by_cases z : i = j
            · subst z; rw [eq, e7]
            · exact hj i (by omega))
          rw [e, show ((a + j : Nat) : Int) + 1 + 1 = a + 1 + ((j + 1 : Nat) : Int) by omega]; exact this
        · unfold f_X12_isRule_u64
          exact k0 (fun d => ne (by rw [d j (by omega), e7]))
  have := L 1000 0 (by omega) (by omega) (fun i hi => by omega)
  rw [show (a : Int) + 1 + ((0 : Nat) : Int) = a + 1 by omega] at this
  exact this
theorem m_rule_x {Q : Int → ml_St → Prop} {h told ts cap w x : Int} {tb cl pr sz : Int → Int} {T : Int → Int → Int} {τ : ml_St} (i : IM h told ts cap tb cl pr sz T τ) (k1 : mt_md told (mt_mk h T sz) w → 0 ≤ x → x ≤ 2 → ∀ σ (a n s m : Nat) (g : Int), IM h told ts cap tb cl pr sz T σ → (∀ j, j < 215 → σ j = τ j) → mq_p h (mt_mk h T sz w) cl a n σ → mr h (mt_mk h T sz w) cl a n s m g → Q (mr_an s m g x) σ) (k0 : ¬ (mt_md told (mt_mk h T sz) w ∧ 0 ≤ x ∧ x ≤ 2) → Q (-1) τ) : f_X12_rule τ w x Q := by
  have h2 := i.1.2.2.1
  have h5 := i.1.2.2.2.1
  unfold f_X12_rule f_X12_rule_u0
  unfold f_X12_rule_u20
  refine m_isMade i (fun q _ => ⟨fun z => absurd z (by omega), fun _ => s_lies (fun x0 x1 _ => ⟨fun _ => m_powers i q (fun σ a n i' j' p => ⟨1000, ?_⟩), fun z => absurd z (by omega)⟩) (fun q2 _ => ⟨fun z => absurd rfl z, fun _ => k0 (fun z => q2 z.2)⟩)⟩) (fun q _ => ⟨fun _ => k0 (fun z => q z.1), fun z => absurd rfl z⟩)
  obtain ⟨g1, hv, ov, g4, g5⟩ := IM_w i q
  have hc := i.2.2.1.2.2.2
  obtain ⟨v0, v1⟩ := mq_20 (IM_cv i q.1 q.2.1).1 q.2.2
  have k1 := fun s m g => k1 q x0 x1 σ a n s m g i' j' p
  clear k0 i' g1 g4 g5
  generalize mt_mk h T sz w = v at *
  have H : mq_h h v cl := ⟨h2, h5, hv, ov, hc, v0, v1⟩
  have p' := p
  obtain ⟨p1, p2, p3, p4, p5, p6, p7, p8, p9⟩ := p
  have R := fun j (hj : j ≤ 2000) => mt_plo_r (n := j) (by omega) h5 hv hc v0 v1 hj
  have E : ∀ s : Nat, 1 ≤ s → s ≤ n - a → mr_D h v cl a n s → (∀ p, 1 ≤ p → p < s → ¬ mr_D h v cl a n p) → f_X12_rule_u45 Q σ x s := by
    intro s s1 s2 d1 d2
    unfold f_X12_rule_u45
    have xa := p7 a (by omega)
    have xp := p7 (a + s) (by omega)
    have ra := R a (by omega)
    have rp := R (a + s) (by omega)
    rw [p3]
    refine fun _ => ⟨mt_I (by omega) (by omega), by omega, by omega, fun _ _ => ⟨by omega, by omega, fun _ y7 e7 _ y9 e9 => ⟨a + 3, ?_⟩⟩⟩
    rw [show (a : Int) + 1 + s = ((a + s : Nat) : Int) + 1 by omega, xa, xp, w64_id ⟨by omega, by omega⟩] at e7
    subst e9
    have L : ∀ (N : Nat) (m : Nat), m ≤ a → m + 1 < N → (∀ j, m ≤ j → j < a → mt_plo h v cl (j + s) - mt_plo h v cl j = y7) → f_X12_rule_u74 Q (f_X12_rule_u113 Q) N σ x s y7 ((m : Int) + 1) := by
      intro N
      induction N with
      | zero => intro m y0 hN; omega
      | succ N ih =>
        intro m y0 hN hm
        have out : (m = 0 ∨ mt_plo h v cl (m - 1 + s) - mt_plo h v cl (m - 1) ≠ y7) → f_X12_rule_u113 Q σ x s y7 ((m : Int) + 1) := fun z => by
          have kk := k1 s m y7 ⟨s1, s2, d1, d2, e7, y0, hm, z⟩
          unfold mr_an at kk
          unfold f_X12_rule_u113 f_X12_rule_u135
          refine ⟨fun z0 => ⟨fun z1 => ?_, fun z1 => ?_⟩, fun z0 => ?_⟩
          · rw [if_neg z0, if_neg z1] at kk; exact kk
          · rw [if_neg z0, if_pos z1] at kk; exact kk
          · rw [if_pos z0] at kk; exact kk
        unfold f_X12_rule_u74
        refine ⟨fun c => out (Or.inl (by omega)), fun c => ?_⟩
        have x1 := p7 (m - 1 + s) (by omega)
        have x2 := p7 (m - 1) (by omega)
        have r1 := R (m - 1 + s) (by omega)
        have r2 := R (m - 1) (by omega)
        rw [show (m : Int) + 1 - 1 + s = ((m - 1 + s : Nat) : Int) + 1 by omega, show (m : Int) + 1 - 1 = ((m - 1 : Nat) : Int) + 1 by omega, x1, x2, w64_id ⟨by omega, by omega⟩]
        refine ⟨mt_I (by omega) (by omega), mt_I (by omega) (by omega), by omega, by omega, fun _ => ⟨mt_I (by omega) (by omega), by omega, by omega, fun _ => ⟨fun ne => out (Or.inr ne), fun eq => ⟨mt_I (by omega) (by omega), fun y9 e => ?_⟩⟩⟩⟩
        rw [e, show (m : Int) + 1 + -1 = ((m - 1 : Nat) : Int) + 1 by omega]
        refine ih (m - 1) (by omega) (by omega) (fun j j1 j2 => ?_)
        by_cases z : j = m - 1
        · subst z; exact eq
        · exact hm j (by omega) j2
    exact L _ a (Nat.le_refl a) (by omega) (fun j j1 j2 => by omega)
  have L : ∀ (N : Nat) (s : Nat), 1 ≤ s → s ≤ n - a → n - a - s < N → (∀ p, 1 ≤ p → p < s → ¬ mr_D h v cl a n p) → f_X12_rule_u31 Q (f_X12_rule_u45 Q) N σ x s := by
    intro N
    induction N with
    | zero => intro j j0 j1 hN; omega
    | succ N ih =>
      intro s s1 s2 hN d2
      unfold f_X12_rule_u31
      refine s_isRule_x H p' s s1 s2 (fun d _ => ⟨fun _ => E s s1 s2 d d2, fun z => absurd z (by omega)⟩) (fun d _ => ⟨fun z => absurd rfl z, fun _ => ⟨mt_I (by omega) (by omega), fun y e => ?_⟩⟩)
      have ne : s ≠ n - a := fun z => d (by rw [z]; exact mr_D_n H p1 (by omega) p8)
      rw [e, show (s : Int) + 1 = ((s + 1 : Nat) : Int) by omega]
      refine ih (s + 1) (by omega) (by omega) (by omega) (fun q q1 q2 => ?_)
      by_cases z : q = s
      · subst z; exact d
      · exact d2 q q1 (by omega)
  exact L 1000 1 (by omega) (by omega) (by omega) (fun q q1 q2 => by omega)
