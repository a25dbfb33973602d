/-! the class: check, count; the POWERS (that they end) -/
theorem c_check {Q : Int → ml_St → Prop} {h told ts cap w : Int} {tb cl pr sz : Int → Int} {T : Int → Int → Int} {σ0 : ml_St} (i : IC h told ts cap tb cl pr sz T σ0) (k0 : ¬ (mt_md told (mt_mk h T sz) w ∧ 2 * h ≤ ts) → Q (-2) σ0) (k1 : mt_md told (mt_mk h T sz) w → 2 * h ≤ ts → ∀ x, (x = -1 ∧ (∀ e, 0 ≤ e → e < 2 * h → mt_ub tb e = mt_mk h T sz w e)) ∨ (0 ≤ x ∧ x < 2 * h ∧ mt_ub tb x ≠ mt_mk h T sz w x ∧ (∀ e, 0 ≤ e → e < x → mt_ub tb e = mt_mk h T sz w e)) → ∀ σ, IC h told 0 cap tb cl pr sz T σ → (∀ j, 215 ≤ j → σ j = σ0 j) → Q x σ) : f_X11_check σ0 w Q := by
  have a := i.1
  have b := i.2.1
  have h2 := a.2.2.1
  have h5 := a.2.2.2.1
  unfold f_X11_check f_X11_check_u0
  refine c_isMade i (fun q _ => ⟨fun c => absurd c (by omega), fun _ => ?_⟩) (fun q _ => ⟨fun _ => ?_, fun c => absurd rfl c⟩)
  · rw [b.1, a.1]
    refine fun _ _ => ⟨mt_i (by omega) (by omega), fun c => ⟨(2 * h).toNat + 2, ?_⟩, fun c => ?_⟩
    · obtain ⟨g1, g2, g3, g4⟩ := IC_w i q.1 q.2.1
      have w16 : w < 16 := by have := q.2.1; have := a.2.2.2.2.2; omega
      have KE : ∀ x, (x = -1 ∧ (∀ e, 0 ≤ e → e < 2 * h → mt_ub tb e = mt_mk h T sz w e)) ∨ (0 ≤ x ∧ x < 2 * h ∧ mt_ub tb x ≠ mt_mk h T sz w x ∧ (∀ e, 0 ≤ e → e < x → mt_ub tb e = mt_mk h T sz w e)) → f_X11_check_u80 Q σ0 x := by
        intro x hx
        unfold f_X11_check_u80
        intro σ1 s1
        exact k1 q c x hx σ1 (IC_B0 (fun j h1 _ => by rw [s1, ml_up_k h1]) (by rw [s1, ml_up_same]) i) (fun j hj => by rw [s1, ml_up_k (by omega)])
      have L : ∀ (N : Nat) (n x2 : Int), 0 ≤ n → n ≤ 2 * h → 2 * h - n + 1 < N → (∀ e, 0 ≤ e → e < n → e ≠ x2 → mt_ub tb e = mt_mk h T sz w e) → (x2 = -1 ∨ (x2 = n - 1 ∧ 0 ≤ x2 ∧ mt_ub tb x2 ≠ mt_mk h T sz w x2)) → f_X11_check_u31 Q (f_X11_check_u80 Q) N σ0 w x2 n := by
        intro N
        induction N with
        | zero => intro n x2 n0 n1 hN; omega
        | succ N ih =>
          intro n x2 n0 n1 hN he hx
          have fin : f_X11_check_u80 Q σ0 x2 ∨ x2 = -1 := by
            rcases hx with hx | ⟨y1, y2, y3⟩
            · exact Or.inr hx
            · exact Or.inl (KE x2 (Or.inr ⟨y2, by omega, y3, fun e e0 e1 => he e e0 (by omega) (by omega)⟩))
          unfold f_X11_check_u31
          rw [a.1]
          refine fun _ => ⟨mt_i (by omega) (by omega), fun z => ?_, fun z => ⟨fun z2 => fin.resolve_right z2, fun z2 => ⟨n0, by omega, fun _ => ⟨q.1, w16, n0, by omega, ?_⟩⟩⟩⟩
          · rcases fin with f | f
            · exact f
            · exact KE x2 (Or.inl ⟨f, fun e e0 e1 => he e e0 (by omega) (by omega)⟩)
          · rw [show 119 + 6 * w + 2 + 1 = 121 + 6 * w + 1 by omega, (g2.1 n n0 (by omega)).1, ic_B_u b n0 (by omega)]
            unfold f_X11_check_u74
            refine fun _ => ⟨fun y => ⟨mt_i (by omega) (by omega), fun y1 e1 => ?_⟩, fun y => ⟨mt_i (by omega) (by omega), fun y1 e1 => ?_⟩⟩
            · subst e1
              refine ih (n + 1) x2 (by omega) (by omega) (by omega) (fun e e0 e1 e2 => ?_) (Or.inl z2)
              by_cases v : e = n
              · rw [v]; exact y
              · exact he e e0 (by omega) e2
            · subst e1
              exact ih (n + 1) n (by omega) (by omega) (by omega) (fun e e0 e1 e2 => he e e0 (by omega) (by omega)) (Or.inr ⟨by omega, n0, y⟩)
      exact L _ 0 (-1) (by omega) (by omega) (by omega) (fun e e0 e1 => absurd e1 (by omega)) (Or.inl rfl)
    · unfold f_X11_check_u24; exact k0 (fun z => c z.2)
  · unfold f_X11_check_u24; exact k0 (fun z => q z.1)
def an_count (h told ts cap : Int) (pr sz : Int → Int) (x : Int) : Int := if x = 0 then h else if x = 1 then told else if x = 2 then ts else if x = 3 then cap else if 10 ≤ x ∧ x - 10 < told then sz (x - 10) else if 30 ≤ x ∧ x - 30 < told then pr (x - 30) else -1
theorem c_count {Q : Int → ml_St → Prop} {h told ts cap x : Int} {tb cl pr sz : Int → Int} {T : Int → Int → Int} {σ : ml_St} (xI : I32 x) (i : IC h told ts cap tb cl pr sz T σ) (k : Q (an_count h told ts cap pr sz x) σ) : f_X11_count σ x Q := by
  obtain ⟨a, b, c, d, e, r, s⟩ := i
  have t16 := a.2.2.2.2.2
  unfold an_count at k
  unfold f_X11_count f_X11_count_u0
  refine ⟨fun z _ => ?_, fun z _ => ?_, fun z _ => ?_, fun z => ?_, fun z => ?_⟩
  · rw [if_pos z] at k; rw [a.1]; exact k
  · rw [if_neg (by omega), if_pos z] at k; rw [a.2.1]; exact k
  · rw [if_neg (by omega), if_neg (by omega), if_pos z] at k; rw [b.1]; exact k
  · rw [if_neg (by omega), if_neg (by omega), if_neg (by omega), if_pos z] at k
    rw [c.1]
    unfold f_X11_count_u65
    refine fun _ => ⟨fun y => ?_, fun y => ?_⟩
    · rw [y] at k; exact k
    · rw [c.2.1.resolve_left y] at k; exact k
  · rw [if_neg (by omega), if_neg (by omega), if_neg (by omega), if_neg (by omega)] at k
    have xl := xI.1
    have P : ¬ (10 ≤ x ∧ x - 10 < told) → f_X11_count_u96 Q σ x := by
      intro n10
      rw [if_neg n10] at k
      unfold f_X11_count_u96
      unfold f_X11_count_u128 f_X11_count_u129
      refine ⟨fun y => ?_, fun y => ⟨⟨by omega, by have := xI.2; omega⟩, s_isTold a.2.1 (fun w0 w1 _ => ⟨fun v => absurd v (by omega), fun _ => ⟨⟨by omega, by have := xI.2; omega⟩, by omega, by omega, fun _ => ?_⟩⟩) (fun q _ => ⟨fun _ => ?_, fun v => absurd rfl v⟩)⟩⟩
      · rw [if_neg (by omega)] at k; exact k
      · rw [if_pos ⟨by omega, w1⟩] at k; rw [(d (x - 30) (by omega) (by omega)).1]; exact k
      · rw [if_neg (fun y => q ⟨by omega, y.2⟩)] at k; exact k
    refine ⟨fun y => P (by omega), fun y => ⟨⟨by omega, by have := xI.2; omega⟩, s_isTold a.2.1 (fun w0 w1 _ => ⟨fun v => absurd v (by omega), fun _ => ⟨⟨by omega, by have := xI.2; omega⟩, by omega, by omega, fun _ => ?_⟩⟩) (fun q _ => ⟨fun _ => P (fun y => q ⟨by omega, y.2⟩), fun v => absurd rfl v⟩)⟩⟩
    rw [if_pos ⟨by omega, w1⟩] at k
    rw [(e (x - 10) (by omega) w1).1.2.1]; exact k
/-- INDEX and PERIOD in their bounds -/
def mt_pw (σ : ml_St) : Prop := 1 ≤ σ 46 4 ∧ 1 ≤ σ 46 5 ∧ σ 46 4 + σ 46 5 ≤ 64
def mt_f46 (σ σ' : ml_St) : Prop := ∀ j, (j < 46 ∨ 54 < j) → σ' j = σ j
theorem mt_f46_kp {σ σ' : ml_St} (f : mt_f46 σ σ') : mt_kp σ σ' := fun j hj => f j (by omega)
theorem mt_f46_t {σ σ1 σ2 : ml_St} (a : mt_f46 σ σ1) (b : mt_f46 σ1 σ2) : mt_f46 σ σ2 := fun j hj => by rw [b j hj, a j hj]
theorem mt_f46_fr {k : Int} {σ σ' : ml_St} (h1 : 46 ≤ k) (h2 : k ≤ 52) (f : mt_fr k σ σ') : mt_f46 σ σ' := fun j hj => f j (by omega) (by omega) (by omega)
theorem mt_f46_up {k i v : Int} {σ : ml_St} (h1 : 46 ≤ k) (h2 : k ≤ 54) : mt_f46 σ (ml_up σ k i v) := fun j hj => ml_up_k (by omega)
theorem s_study {Q : ml_St → Prop} {p h : Int} {σ0 : ml_St} {v cl : Int → Int} (h2 : 2 ≤ h) (h5 : h ≤ 5) (pd : p + 3 ≤ 46 ∨ 55 ≤ p) (p5 : 5 < p) (hv : mt_M h v) (wv : mt_wv h σ0 p v) (hc : mt_M h cl) (ec : mt_eq h (σ0 5) cl) (k : ∀ σ, mt_f46 σ0 σ → mt_pw σ → Q σ) : f_X6_study σ0 p h Q := by
  have KE : ∀ σ, mt_f46 σ0 σ → mt_pw σ → f_X6_study_u168 Q p σ := by
    intro σ f ⟨q1, q2, q3⟩
    unfold f_X6_study_u168
    refine fun _ _ => ⟨mt_i (by omega) (by omega), by omega, by omega, fun _ _ => ⟨by omega, by omega, fun _ σ8 s8 => ?_⟩⟩
    refine k σ8 (mt_f46_t f (by rw [s8]; exact mt_f46_up (by omega) (by omega))) ?_
    unfold mt_pw
    rw [s8, ml_up_i (by omega), ml_up_i (by omega)]
    exact ⟨q1, q2, q3⟩
  have L : ∀ (N : Nat) (n x4 : Int) (σ : ml_St) (u : Int → Int), 1 ≤ n → n ≤ 65 → 65 - n < N → mt_f46 σ0 σ → mt_M h u → mt_wv h σ 49 u → mt_pw σ → f_X6_study_u24 Q (f_X6_study_u168 Q p) p N σ h x4 n := by
    intro N
    induction N with
    | zero => intro n x4 σ u n0 n1 hN; omega
    | succ N ih =>
      intro n x4 σ u n0 n1 hN f hu wu hp
      unfold f_X6_study_u24
      refine ⟨fun _ => KE σ f hp, fun c => ⟨fun _ => KE σ f hp, fun c2 => ?_⟩⟩
      subst c2
      have U66 : ∀ (σ : ml_St) (u : Int → Int), mt_f46 σ0 σ → mt_M h u → mt_wv h σ 49 u → mt_pw σ → f_X6_study_u66 Q (f_X6_study_u24 Q (f_X6_study_u168 Q p) p N) p σ h 0 n := by
        intro σ u f hu wu hp
        have num := mt_num_lt h2 h5 hu
        unfold f_X6_study_u66
        refine s_number h2 h5 hu (mt_eq_wa wu).1 (fun _ => ⟨by omega, by omega, fun σ2 s2 _ => ?_⟩)
        have k2 : ∀ j, j ≠ 47 → σ2 j = σ j := fun j hj => by rw [s2, ml_up_k hj]
        refine s_loopsBy (α := u) (β := cl) h2 h5 hu hc (fun e e0 e1 => by rw [k2 _ (by omega)]; exact (wu.1 e e0 e1).1) (fun e e0 e1 => by rw [k2 _ (by omega), f 5 (by omega)]; exact ec e e0 e1) ?_
        refine fun _ => ⟨by omega, by omega, fun σ6 s6 => ⟨n.toNat + 1, ?_⟩⟩
        have k6 : ∀ j, j ≠ 47 → j ≠ 48 → σ6 j = σ j := fun j h1 h3 => by rw [s6, ml_up_k h3, k2 j h1]
        have f6 : mt_f46 σ0 σ6 := fun j hj => by rw [k6 j (by omega) (by omega), f j hj]
        have w6 : mt_wv h σ6 49 u := mt_wv_eq (k6 _ (by omega) (by omega)) (k6 _ (by omega) (by omega)) (k6 _ (by omega) (by omega)) wu
        have p6 : mt_pw σ6 := by unfold mt_pw; rw [k6 46 (by omega) (by omega)]; exact hp
        have I : ∀ (M : Nat) (m x4 : Int) (σ : ml_St), 1 ≤ m → m ≤ n → n - m < M → mt_f46 σ0 σ → mt_wv h σ 49 u → mt_pw σ → f_X6_study_u109 Q (f_X6_study_u162 Q (f_X6_study_u24 Q (f_X6_study_u168 Q p) p N) p) p M σ h x4 n m := by
          intro M
          induction M with
          | zero => intro m x4 σ m0 m1 hM; omega
          | succ M ihM =>
            intro m x4 σ m0 m1 hM f wu hp
            have out : f_X6_study_u162 Q (f_X6_study_u24 Q (f_X6_study_u168 Q p) p N) p σ h x4 n := by
              unfold f_X6_study_u162
              refine ⟨mt_i (by omega) (by omega), fun y1 e1 => ?_⟩
              subst e1
              exact ih (n + 1) x4 σ u (by omega) (by omega) (by omega) f hu wu hp
            unfold f_X6_study_u109
            refine ⟨fun _ => out, fun c3 => ⟨fun _ => out, fun c4 => ⟨by omega, by omega, fun _ => ⟨by omega, by omega, fun _ => ⟨fun _ => ?_, fun _ σ7 s7 => ⟨mt_i (by omega) (by omega), fun σ8 s8 => ?_⟩⟩⟩⟩⟩⟩
            · unfold f_X6_study_u156
              refine ⟨mt_i (by omega) (by omega), fun y1 e1 => ?_⟩
              subst e1
              exact ihM (m + 1) x4 σ (by omega) (by omega) (by omega) f wu hp
            · unfold f_X6_study_u156
              refine ⟨mt_i (by omega) (by omega), fun y1 e1 => ?_⟩
              subst e1
              have k8 : ∀ j, j ≠ 46 → σ8 j = σ j := fun j hj => by rw [s8, ml_up_k hj, s7, ml_up_k hj]
              refine ihM (m + 1) 1 σ8 (by omega) (by omega) (by omega) (fun j hj => by rw [k8 j (by omega), f j hj]) (mt_wv_eq (k8 _ (by omega)) (k8 _ (by omega)) (k8 _ (by omega)) wu) ?_
              unfold mt_pw
              rw [s8, ml_up_i (show (4:Int) ≠ 5 by omega), ml_up_same, s7, ml_up_same]
              omega
        exact I _ 1 0 σ6 (by omega) (by omega) (by omega) f6 w6 p6
      refine ⟨fun c3 => U66 σ u f hu wu hp, fun c3 => ?_⟩
      have wv' : mt_wv h σ p v := mt_wv_eq (f _ (by omega)) (f _ (by omega)) (f _ (by omega)) wv
      refine s_beBoth h2 h5 (by omega) (by omega) hu hv wu wv' (fun σ4 f4 w4 => s_beLike h5 (by omega) w4 (fun σ5 f5 w5 => ?_))
      have ff : mt_f46 σ σ5 := mt_f46_t (mt_f46_fr (by omega) (by omega) f4) (mt_f46_fr (by omega) (by omega) f5)
      refine U66 σ5 _ (mt_f46_t f ff) (mt_both_M h5 hu hv) w5 ?_
      unfold mt_pw
      rw [f5 46 (by omega) (by omega) (by omega), f4 46 (by omega) (by omega) (by omega)]
      exact hp
  unfold f_X6_study f_X6_study_u0
  intro σ1 s1 σ2 s2
  have f2 : mt_f46 σ0 σ2 := by rw [s2, s1]; exact mt_f46_t (mt_f46_up (by omega) (by omega)) (mt_f46_up (by omega) (by omega))
  refine s_beLike h5 (by omega) (mt_wv_eq (f2 _ (by omega)) (f2 _ (by omega)) (f2 _ (by omega)) wv) (fun σ3 f3 w3 => ⟨66, ?_⟩)
  refine L 66 1 0 σ3 v (by omega) (by omega) (by omega) (mt_f46_t f2 (mt_f46_fr (by omega) (by omega) f3)) hv w3 ?_
  unfold mt_pw
  rw [f3 46 (by omega) (by omega) (by omega), s2, ml_up_i (show (4:Int) ≠ 5 by omega), ml_up_same, s1, ml_up_same]
  omega
theorem mb_l2i {x : Int} (h0 : 0 ≤ x) (h1 : x < 65) : b_l2i x = x := by
  have k : ∀ n : Nat, n < 65 → b_l2i (n : Int) = n := by decide +kernel
  have := k x.toNat (by omega)
  rw [show ((x.toNat : Nat) : Int) = x by omega] at this
  exact this
theorem s_loopsOf {Q : Int → ml_St → Prop} {x : Int} {σ : ml_St} (p : mt_pw σ) (x0 : 0 ≤ x) (xI : I64 x) (k : ∀ r, I64 r → Q r σ) : f_X6_loopsOf σ x Q := by
  obtain ⟨p1, p2, p3⟩ := p
  unfold f_X6_loopsOf f_X6_loopsOf_u0
  refine fun _ => ⟨fun c _ _ => ⟨by omega, fun y7 _ _ _ _ => ⟨by omega, ?_⟩⟩, fun c => ?_⟩
  · have e1 : w64 (x - σ 46 4) = x - σ 46 4 := w64_id ⟨by have := xI.1; omega, by have := xI.2; omega⟩
    have tm : Int.tmod (x - σ 46 4) (σ 46 5) = (x - σ 46 4) % (σ 46 5) := Int.tmod_eq_emod_of_nonneg (by omega)
    have m0 := Int.emod_nonneg (x - σ 46 4) (show σ 46 5 ≠ 0 by omega)
    have m1 := Int.emod_lt_of_pos (x - σ 46 4) (show 0 < σ 46 5 by omega)
    rw [e1, tm, mb_l2i m0 (by omega)]
    refine ⟨mt_i (by omega) (by omega), by omega, by omega, fun _ y15 _ _ => ⟨fun _ => ?_, fun c2 _ => ⟨by omega, fun _ => ?_, fun _ => k _ ⟨by omega, by omega⟩⟩⟩⟩
    · unfold f_X6_loopsOf_u87; exact fun _ => k _ (w64_r _)
    · unfold f_X6_loopsOf_u87; exact fun _ => k _ (w64_r _)
  · rw [mb_l2i x0 (by omega)]
    exact ⟨x0, by omega, fun hI => k _ hI⟩
theorem s_growth {Q : Int → ml_St → Prop} {x y : Int} {σ : ml_St} (p : mt_pw σ) (x0 : 0 ≤ x) (x1 : x ≤ 1000) (y0 : 0 ≤ y) (y1 : y ≤ 1000) (k : ∀ r, I64 r → Q r σ) : f_X6_growth σ x y Q := by
  unfold f_X6_growth f_X6_growth_u0
  exact ⟨mt_I (by omega) (by omega), s_loopsOf p (by omega) ⟨by omega, by omega⟩ (fun _ _ _ => s_loopsOf p x0 ⟨by omega, by omega⟩ (fun _ _ _ => k _ (w64_r _)))⟩
theorem s_isEven {Q : Int → ml_St → Prop} {x : Int} {σ : ml_St} (p : mt_pw σ) (x0 : 0 ≤ x) (x1 : x ≤ 100) (k : ∀ r, (r = 0 ∨ r = 1) → Q r σ) : f_X6_isEven σ x Q := by
  have p' := p
  obtain ⟨p1, p2, p3⟩ := p
  have L : ∀ (N : Nat) (x2 n : Int), (x2 = 0 ∨ x2 = 1) → 0 ≤ n → n ≤ 100 → 100 - n < N → f_X6_isEven_u9 Q (f_X6_isEven_u57 Q) N σ x x2 n := by
    intro N
    induction N with
    | zero => intro x2 n _ n0 n1 hN; omega
    | succ N ih =>
      intro x2 n hx n0 n1 hN
      unfold f_X6_isEven_u9
      have nx : ∀ s, (s = 0 ∨ s = 1) → n < σ 46 4 + σ 46 5 → f_X6_isEven_u50 Q (f_X6_isEven_u9 Q (f_X6_isEven_u57 Q) N) σ x n s := by
        intro s hs hn
        unfold f_X6_isEven_u50
        refine ⟨mt_i (by omega) (by omega), fun y1 e1 => ?_⟩
        subst e1
        exact ih s (n + 1) hs (by omega) (by omega) (by omega)
      refine fun _ _ => ⟨mt_i (by omega) (by omega), fun _ => ?_, fun c => ⟨fun _ => ?_, fun _ => ?_⟩⟩
      · unfold f_X6_isEven_u57; exact k x2 hx
      · unfold f_X6_isEven_u49; exact nx 0 (Or.inl rfl) (by omega)
      · refine s_growth p' n0 (by omega) x0 (by omega) (fun _ _ _ _ => s_growth p' (by omega) (by omega) x0 (by omega) (fun _ _ _ => ⟨fun _ => ?_, fun _ => nx 1 (Or.inr rfl) (by omega)⟩))
        unfold f_X6_isEven_u49; exact nx 0 (Or.inl rfl) (by omega)
  unfold f_X6_isEven f_X6_isEven_u0
  refine fun _ => ⟨mt_i (by omega) (by omega), fun y3 e3 => ⟨200, ?_⟩⟩
  subst e3
  exact L 200 1 _ (Or.inr rfl) (by omega) (by omega) (by omega)
/-- the rule found -/
def mt_rl2 (σ : ml_St) : Prop := mt_pw σ ∧ 1 ≤ σ 46 7 ∧ σ 46 7 ≤ 64 ∧ 1 ≤ σ 46 9 ∧ σ 46 9 ≤ 64
theorem s_findRule {Q : ml_St → Prop} {σ0 : ml_St} (p : mt_pw σ0) (k : ∀ σ, mt_f46 σ0 σ → mt_rl2 σ → Q σ) : f_X6_findRule σ0 Q := by
  have S : ∀ (N : Nat) (σ : ml_St), mt_f46 σ0 σ → mt_rl2 σ → σ 46 9 < N → f_X6_findRule_u64 Q (f_X6_findRule_u107 Q) N σ := by
    intro N
    induction N with
    | zero => intro σ _ hr hN; have := hr.2.2.2.1; omega
    | succ N ih =>
      intro σ f hr hN
      have hr' := hr
      obtain ⟨q, q1, q2, q3, q4⟩ := hr
      unfold f_X6_findRule_u64
      unfold f_X6_findRule_u107
      refine fun _ => ⟨fun _ => k σ f hr', fun c _ => ⟨mt_i (by omega) (by omega), fun _ => s_growth q (by omega) (by omega) (by omega) (by omega) (fun _ _ _ _ => ⟨fun _ => k σ f hr', fun _ _ => ⟨mt_i (by omega) (by omega), fun σ11 s11 => ?_⟩⟩)⟩⟩
      refine ih σ11 (mt_f46_t f (by rw [s11]; exact mt_f46_up (by omega) (by omega))) ?_ (by rw [s11, ml_up_same]; omega)
      unfold mt_rl2 mt_pw
      rw [s11, ml_up_i (show (4:Int) ≠ 9 by omega), ml_up_i (show (5:Int) ≠ 9 by omega), ml_up_i (show (7:Int) ≠ 9 by omega), ml_up_same]
      exact ⟨q, q1, q2, by omega, by omega⟩
  have U40 : ∀ σ, mt_f46 σ0 σ → mt_pw σ → 1 ≤ σ 46 7 → σ 46 7 ≤ 64 → f_X6_findRule_u40 Q σ := by
    intro σ f q q1 q2
    have q' := q
    obtain ⟨p1, p2, p3⟩ := q
    unfold f_X6_findRule_u40
    refine fun _ _ => s_growth q' (by omega) (by omega) (by omega) (by omega) (fun _ _ _ σ4 s4 _ σ6 s6 => ⟨100, ?_⟩)
    have e4 : σ4 46 4 = σ 46 4 := by rw [s4, ml_up_i (by omega)]
    rw [e4] at s6
    have f6 : mt_f46 σ σ6 := by rw [s6, s4]; exact mt_f46_t (mt_f46_up (by omega) (by omega)) (mt_f46_up (by omega) (by omega))
    have r6 : mt_rl2 σ6 := by
      unfold mt_rl2 mt_pw
      rw [s6, ml_up_i (show (4:Int) ≠ 9 by omega), ml_up_i (show (5:Int) ≠ 9 by omega), ml_up_i (show (7:Int) ≠ 9 by omega), ml_up_same, s4, ml_up_i (show (4:Int) ≠ 8 by omega), ml_up_i (show (5:Int) ≠ 8 by omega), ml_up_i (show (7:Int) ≠ 8 by omega)]
      exact ⟨q', q1, q2, by omega, by omega⟩
    exact S 100 σ6 (mt_f46_t f f6) r6 (by have := r6.2.2.2.2; omega)
  have L : ∀ (N : Nat) (σ : ml_St), mt_f46 σ0 σ → mt_pw σ → 1 ≤ σ 46 7 → σ 46 7 ≤ 64 → 65 - σ 46 7 < N → f_X6_findRule_u5 Q (f_X6_findRule_u40 Q) N σ := by
    intro N
    induction N with
    | zero => intro σ _ _ _ q hN; omega
    | succ N ih =>
      intro σ f q q1 q2 hN
      have q' := q
      obtain ⟨p1, p2, p3⟩ := q
      unfold f_X6_findRule_u5
      refine fun _ _ => ⟨fun _ => U40 σ f q' q1 q2, fun c _ => s_isEven q' (by omega) (by omega) (fun r hr _ => ⟨fun _ => U40 σ f q' q1 q2, fun _ _ => ⟨mt_i (by omega) (by omega), fun σ9 s9 => ?_⟩⟩)⟩
      refine ih σ9 (mt_f46_t f (by rw [s9]; exact mt_f46_up (by omega) (by omega))) ?_ (by rw [s9, ml_up_same]; omega) (by rw [s9, ml_up_same]; omega) (by rw [s9, ml_up_same]; omega)
      unfold mt_pw
      rw [s9, ml_up_i (show (4:Int) ≠ 7 by omega), ml_up_i (show (5:Int) ≠ 7 by omega)]
      exact q'
  unfold f_X6_findRule f_X6_findRule_u0
  intro σ1 s1
  have f1 : mt_f46 σ0 σ1 := by rw [s1]; exact mt_f46_up (by omega) (by omega)
  refine ⟨100, L 100 σ1 f1 ?_ (by rw [s1, ml_up_same]; omega) (by rw [s1, ml_up_same]; omega) (by rw [s1, ml_up_same]; omega)⟩
  unfold mt_pw
  rw [s1, ml_up_i (show (4:Int) ≠ 7 by omega), ml_up_i (show (5:Int) ≠ 7 by omega)]
  exact p
theorem s_firstFrom {Q : Int → ml_St → Prop} {x y : Int} {σ : ml_St} (p : mt_pw σ) (x0 : 0 ≤ x) (x1 : x ≤ 1000) (k : ∀ r, Q r σ) : f_X6_firstFrom σ x y Q := by
  unfold f_X6_firstFrom f_X6_firstFrom_u0
  unfold f_X6_firstFrom_u48
  exact s_loopsOf p x0 ⟨by omega, by omega⟩ (fun _ _ _ _ _ => ⟨fun _ => ⟨fun _ => k _, fun _ _ => ⟨fun _ => k _, fun c _ => ⟨by omega, fun _ _ => ⟨by omega, fun _ => k _⟩, fun _ => k _⟩⟩⟩, fun _ => k _⟩)
theorem s_howManyFrom {Q : Int → ml_St → Prop} {x y f t : Int} {σ : ml_St} (p : mt_rl2 σ) (x0 : 0 ≤ x) (x1 : x ≤ 1000) (k : ∀ r, Q r σ) : f_X6_howManyFrom σ x y f t Q := by
  have q := p.2.1
  unfold f_X6_howManyFrom f_X6_howManyFrom_u0
  unfold f_X6_howManyFrom_u25 f_X6_howManyFrom_u49 f_X6_howManyFrom_u91 f_X6_howManyFrom_u118
  exact s_firstFrom p.1 x0 x1 (fun _ _ => ⟨fun _ => k _, fun _ => ⟨fun _ _ => ⟨fun _ => ⟨fun _ _ _ => ⟨by omega, fun _ => ⟨fun _ _ => ⟨by omega, k _⟩, fun _ => k _⟩⟩, fun _ => ⟨fun _ _ => ⟨by omega, k _⟩, fun _ => k _⟩⟩, fun _ => ⟨fun _ => k _, fun _ => k _⟩⟩, fun _ => k _⟩⟩)
theorem s_howMany6 {Q : Int → ml_St → Prop} {x f t : Int} {σ : ml_St} (p : mt_rl2 σ) (k : ∀ r, Q r σ) : f_X6_howMany σ x f t Q := by
  have p' := p
  obtain ⟨q, q1, q2, q3, q4⟩ := p
  have L2 : ∀ (N : Nat) (s n : Int), 0 ≤ n → n ≤ 64 → 65 - n < N → f_X6_howMany_u59 Q (f_X6_howMany_u94 Q) N σ x f t s n := by
    intro N
    induction N with
    | zero => intro s n n0 n1 hN; omega
    | succ N ih =>
      intro s n n0 n1 hN
      unfold f_X6_howMany_u59
      unfold f_X6_howMany_u94
      refine fun _ => ⟨fun _ => k _, fun c _ => ⟨mt_i (by omega) (by omega), s_howManyFrom p' (by omega) (by omega) (fun r _ y7 _ => ⟨mt_i (by omega) (by omega), fun y8 e8 => ?_⟩)⟩⟩
      subst e8
      exact ih y7 (n + 1) (by omega) (by omega) (by omega)
  have L1 : ∀ (N : Nat) (s n : Int), 0 ≤ n → n ≤ 64 → 65 - n < N → f_X6_howMany_u6 Q (f_X6_howMany_u56 Q) N σ x f t s n := by
    intro N
    induction N with
    | zero => intro s n n0 n1 hN; omega
    | succ N ih =>
      intro s n n0 n1 hN
      unfold f_X6_howMany_u6
      have nx : ∀ s, n < σ 46 9 → f_X6_howMany_u50 Q (f_X6_howMany_u6 Q (f_X6_howMany_u56 Q) N) σ x f t s n := by
        intro s hn
        unfold f_X6_howMany_u50
        refine ⟨mt_i (by omega) (by omega), fun y e => ?_⟩
        subst e
        exact ih s (n + 1) (by omega) (by omega) (by omega)
      refine fun _ => ⟨fun _ => ⟨100, L2 100 s 0 (by omega) (by omega) (by omega)⟩, fun c => s_loopsOf q n0 ⟨by omega, by omega⟩ (fun _ _ _ => ⟨fun _ => nx _ (by omega), fun _ => ⟨fun _ => nx _ (by omega), fun _ => ⟨fun _ => nx _ (by omega), fun _ _ _ => nx _ (by omega)⟩⟩⟩)⟩
  unfold f_X6_howMany f_X6_howMany_u0
  exact ⟨100, L1 100 0 1 (by omega) (by omega) (by omega)⟩
theorem s_firstWith {Q : Int → ml_St → Prop} {x : Int} {σ : ml_St} (p : mt_rl2 σ) (k : ∀ r, Q r σ) : f_X6_firstWith σ x Q := by
  have p' := p
  obtain ⟨q, q1, q2, q3, q4⟩ := p
  have L2 : ∀ (N : Nat) (s n : Int), 0 ≤ n → n ≤ 64 → 65 - n < N → f_X6_firstWith_u37 Q (f_X6_firstWith_u102 Q) N σ x s n := by
    intro N
    induction N with
    | zero => intro s n n0 n1 hN; omega
    | succ N ih =>
      intro s n n0 n1 hN
      have nx : ∀ s, n < σ 46 7 → f_X6_firstWith_u96 Q (f_X6_firstWith_u37 Q (f_X6_firstWith_u102 Q) N) σ x s n := by
        intro s hn
        unfold f_X6_firstWith_u96
        refine ⟨mt_i (by omega) (by omega), fun y e => ?_⟩
        subst e
        exact ih s (n + 1) (by omega) (by omega) (by omega)
      unfold f_X6_firstWith_u37
      unfold f_X6_firstWith_u102 f_X6_firstWith_u93
      refine fun _ => ⟨fun _ => k _, fun c _ => ⟨mt_i (by omega) (by omega), s_firstFrom q (by omega) (by omega) (fun r _ => ⟨fun _ => nx _ (by omega), fun _ => ⟨fun _ => nx _ (by omega), fun _ => ⟨fun _ => nx _ (by omega), fun _ => ⟨fun _ => nx _ (by omega), fun _ => nx _ (by omega)⟩⟩⟩⟩)⟩⟩
  have L1 : ∀ (N : Nat) (n : Int), 0 ≤ n → n ≤ 64 → 65 - n < N → f_X6_firstWith_u2 Q (f_X6_firstWith_u21 Q) (f_X6_firstWith_u30 Q) N σ x n := by
    intro N
    induction N with
    | zero => intro n n0 n1 hN; omega
    | succ N ih =>
      intro n n0 n1 hN
      unfold f_X6_firstWith_u2
      unfold f_X6_firstWith_u21 f_X6_firstWith_u30
      refine fun _ => ⟨fun _ => ⟨100, L2 100 (-1) 0 (by omega) (by omega) (by omega)⟩, fun c => s_loopsOf q n0 ⟨by omega, by omega⟩ (fun _ _ _ => ⟨fun _ => ⟨mt_i (by omega) (by omega), fun y e => ?_⟩, fun _ => k _⟩)⟩
      subst e
      exact ih (n + 1) (by omega) (by omega) (by omega)
  unfold f_X6_firstWith f_X6_firstWith_u0
  exact ⟨100, L1 100 1 (by omega) (by omega) (by omega)⟩
theorem s_alwaysOne {Q : Int → ml_St → Prop} {σ : ml_St} (p : mt_pw σ) (k : ∀ r, (r = 0 ∨ r = 1) → Q r σ) : f_X6_alwaysLeaveOne σ Q := by
  obtain ⟨p1, p2, p3⟩ := p
  have L : ∀ (N : Nat) (s n : Int), (s = 0 ∨ s = 1) → 1 ≤ n → n ≤ 65 → 66 - n < N → f_X6_alwaysLeaveOne_u4 Q (f_X6_alwaysLeaveOne_u44 Q) N σ s n := by
    intro N
    induction N with
    | zero => intro s n _ n0 n1 hN; omega
    | succ N ih =>
      intro s n hs n0 n1 hN
      have nx : ∀ s, (s = 0 ∨ s = 1) → n ≤ σ 46 4 + σ 46 5 → f_X6_alwaysLeaveOne_u37 Q (f_X6_alwaysLeaveOne_u4 Q (f_X6_alwaysLeaveOne_u44 Q) N) σ n s := by
        intro s hs hn
        unfold f_X6_alwaysLeaveOne_u37
        refine ⟨mt_i (by omega) (by omega), fun y e => ?_⟩
        subst e
        exact ih s (n + 1) hs (by omega) (by omega) (by omega)
      unfold f_X6_alwaysLeaveOne_u4
      unfold f_X6_alwaysLeaveOne_u44 f_X6_alwaysLeaveOne_u36
      exact fun _ _ => ⟨mt_i (by omega) (by omega), fun _ => k s hs, fun c => ⟨fun _ => nx 0 (Or.inl rfl) (by omega), fun _ => ⟨by omega, by omega, fun _ => ⟨fun _ => nx 0 (Or.inl rfl) (by omega), fun _ => nx 1 (Or.inr rfl) (by omega)⟩⟩⟩⟩
  unfold f_X6_alwaysLeaveOne f_X6_alwaysLeaveOne_u0
  exact ⟨100, L 100 1 1 (Or.inr rfl) (by omega) (by omega) (by omega)⟩
