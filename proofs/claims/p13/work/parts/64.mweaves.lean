theorem mt_i {x : Int} (h0 : -2000 ≤ x) (h1 : x < 2000) : I32 x := ⟨by omega, by omega⟩
theorem s_joins {Q : ml_St → Prop} {m x y n : Int} {τ : ml_St} (r : 0 ≤ m ∧ m < 64) (x0 : 0 ≤ x ∧ x < 10) (y0 : 0 ≤ y ∧ y < 10) (k : Q (ml_up (ml_up (ml_up (ml_up τ 227 (10 * m + x) y) 227 (10 * m + y) x) 228 (10 * m + x) n) 228 (10 * m + y) n)) : f_X12_joins τ m x y n Q := by
  unfold f_X12_joins f_X12_joins_u0
  refine ⟨mt_i (by omega) (by omega), mt_i (by omega) (by omega), by omega, by omega, fun σ1 g1 => ⟨mt_i (by omega) (by omega), mt_i (by omega) (by omega), by omega, by omega, fun σ2 g2 => ⟨mt_i (by omega) (by omega), mt_i (by omega) (by omega), by omega, by omega, fun σ3 g3 => ⟨mt_i (by omega) (by omega), mt_i (by omega) (by omega), by omega, by omega, fun σ4 g4 => ?_⟩⟩⟩⟩
  subst g1; subst g2; subst g3; subst g4
  exact k
theorem mt_mf_joins {m x y n c : Int} {τ : ml_St} (x0 : 0 ≤ x ∧ x < 10) (y0 : 0 ≤ y ∧ y < 10) : mt_mf m τ (ml_up (ml_up (ml_up (ml_up τ 227 (10 * m + x) y) 227 (10 * m + y) x) 228 (10 * m + x) n) 228 (10 * m + y) n) :=
  mt_mf_t (mt_mf_t (mt_mf_t (mt_mf_row (by omega) (by omega) (by omega)) (mt_mf_row (by omega) (by omega) (by omega))) (mt_mf_row (by omega) (by omega) (by omega))) (mt_mf_row (by omega) (by omega) (by omega))
/-- a frame without rails seen and way gone -/
theorem s_straight {Q : ml_St → Prop} {m h : Int} {τ : ml_St} (h2 : 2 ≤ h) (h5 : h ≤ 5) (r : 0 ≤ m ∧ m < 64) (th : τ 215 2 = h) (k : ∀ σ, mt_mf m τ σ → mt_mv h σ m (mt_str h) → Q σ) : f_X12_straight τ m Q := by
  have L : ∀ (N : Nat) (n : Int) (σ : ml_St), 0 ≤ n → n ≤ h → h - n < N → mt_mf m τ σ → (∀ e, 0 ≤ e → e < 2 * h → (e < n ∨ (h ≤ e ∧ e < h + n)) → σ 227 (10 * m + e) = mt_str h e ∧ σ 228 (10 * m + e) = mt_str h (10 + e)) → f_X12_straight_u2 Q (f_X12_straight_u29 Q) N σ m n := by
    intro N
    induction N with
    | zero => intro n σ n0 n1 hN; omega
    | succ N ih =>
      intro n σ n0 n1 hN f hr
      have th1 : σ 215 2 = h := by rw [f.2.1 2 (by omega), th]
      unfold f_X12_straight_u2
      rw [th1]
      refine fun _ => ⟨fun c => ?_, fun c _ => ⟨mt_i (by omega) (by omega), ?_⟩⟩
      · unfold f_X12_straight_u29
        refine ⟨r.1, r.2, fun σ1 s1 => ⟨r.1, r.2, fun σ2 s2 => ⟨r.1, r.2, fun σ3 s3 => ?_⟩⟩⟩
        refine k σ3 ?_ ⟨fun e e0 e1 => ?_, ?_⟩
        · rw [s3, s2, s1]
          exact mt_mf_t (mt_mf_t (mt_mf_t f (mt_mf_fld (by omega))) (mt_mf_fld (by omega))) (mt_mf_fld (by omega))
        · rw [s3, s2, s1, ml_up_k (by omega), ml_up_k (by omega), ml_up_k (by omega), ml_up_k (by omega), ml_up_k (by omega), ml_up_k (by omega)]
          exact hr e e0 e1 (by omega)
        · rw [s3, s2, s1]
          simp [ml_up, mt_str]
      · refine s_joins r ⟨by omega, by omega⟩ ⟨by omega, by omega⟩ ⟨mt_i (by omega) (by omega), fun y6 e6 => ?_⟩
        subst e6
        refine ih (n + 1) _ (by omega) (by omega) (by omega) (mt_mf_t f (mt_mf_joins (c := 0) ⟨by omega, by omega⟩ ⟨by omega, by omega⟩)) (fun e e0 e1 c => ?_)
        obtain ⟨g1, g2⟩ := mt_str_e h5 e0 e1
        rw [g1, g2]
        rw [ml_up_k (show (227:Int) ≠ 228 by omega), ml_up_k (show (227:Int) ≠ 228 by omega)]
        by_cases q1 : e = h + n
        · rw [q1, ml_up_same, ml_up_same, if_neg (by omega)]
          exact ⟨by omega, rfl⟩
        · rw [ml_up_i (by omega), ml_up_i (show 10 * m + e ≠ 10 * m + (h + n) by omega)]
          by_cases q2 : e = n
          · rw [q2, ml_up_same, ml_up_same, if_pos (by omega)]
            exact ⟨by omega, rfl⟩
          · rw [ml_up_i (by omega), ml_up_i (show 10 * m + e ≠ 10 * m + n by omega), ml_up_k (show (228:Int) ≠ 227 by omega), ml_up_k (show (228:Int) ≠ 227 by omega)]
            have := hr e e0 e1 (by omega)
            rw [g1, g2] at this
            exact this
  unfold f_X12_straight f_X12_straight_u0
  exact ⟨h.toNat + 1, L _ 0 τ (by omega) (by omega) (by omega) mt_mf_r (fun e e0 e1 c => absurd c (by omega))⟩
theorem s_sign {Q : ml_St → Prop} {m h i c : Int} {τ : ml_St} (h2 : 2 ≤ h) (h5 : h ≤ 5) (r : 0 ≤ m ∧ m < 64) (th : τ 215 2 = h) (i0 : 0 ≤ i) (i1 : i + 2 ≤ h) (k : ∀ σ, mt_mf m τ σ → mt_mv h σ m (mt_sgn h i (if c = 0 then 1 else 0)) → Q σ) : f_X12_sign τ m c i Q := by
  unfold f_X12_sign f_X12_sign_u0
  refine s_straight h2 h5 r th (fun σ1 f1 w1 => ?_)
  obtain ⟨wr, w20, w21, w22⟩ := w1
  have th1 : σ1 215 2 = h := by rw [f1.2.1 2 (by omega), th]
  have fin : ∀ x1 y1 x2 y2 : Int, 0 ≤ x1 ∧ x1 < 10 → 0 ≤ y1 ∧ y1 < 10 → 0 ≤ x2 ∧ x2 < 10 → 0 ≤ y2 ∧ y2 < 10 → (∀ e, 0 ≤ e → e < 2 * h → mt_sgn h i (if c = 0 then 1 else 0) e = (if e = y2 then x2 else if e = x2 then y2 else if e = y1 then x1 else if e = x1 then y1 else mt_str h e) ∧ mt_sgn h i (if c = 0 then 1 else 0) (10 + e) = (if e = y2 then 1 else if e = x2 then 1 else if e = y1 then 1 else if e = x1 then 1 else 0)) → Q (ml_up (ml_up (ml_up (ml_up (ml_up (ml_up (ml_up (ml_up σ1 227 (10 * m + x1) y1) 227 (10 * m + y1) x1) 228 (10 * m + x1) 1) 228 (10 * m + y1) 1) 227 (10 * m + x2) y2) 227 (10 * m + y2) x2) 228 (10 * m + x2) 1) 228 (10 * m + y2) 1) := by
    intro x1 y1 x2 y2 a1 a2 a3 a4 hh
    refine k _ (mt_mf_t (mt_mf_t f1 (mt_mf_joins (c := 0) a1 a2)) (mt_mf_joins (c := 0) a3 a4)) ⟨fun e e0 e1 => ?_, ?_⟩
    · rw [(hh e e0 e1).1, (hh e e0 e1).2, ← (wr e e0 e1).1]
      have z : σ1 228 (10 * m + e) = 0 := by rw [(wr e e0 e1).2, (mt_str_e h5 e0 e1).2]
      have ne : (227 : Int) ≠ 228 := by omega
      have ne2 : (228 : Int) ≠ 227 := by omega
      simp only [mt_up2, ne, ne2, false_and, if_false, true_and, z]
      have q : ∀ x : Int, (10 * m + e = 10 * m + x) = (e = x) := fun x => by apply propext; constructor <;> omega
      simp only [q]
      refine ⟨?_, ?_⟩ <;> first | trivial | rfl
    · rw [ml_up_k (by omega), ml_up_k (by omega), ml_up_k (by omega), ml_up_k (by omega), ml_up_k (by omega), ml_up_k (by omega), ml_up_k (by omega), ml_up_k (by omega), ml_up_k (show (230:Int) ≠ 228 by omega), ml_up_k (show (230:Int) ≠ 228 by omega), ml_up_k (show (230:Int) ≠ 227 by omega), ml_up_k (show (230:Int) ≠ 227 by omega), ml_up_k (show (230:Int) ≠ 228 by omega), ml_up_k (show (230:Int) ≠ 228 by omega), ml_up_k (show (230:Int) ≠ 227 by omega), ml_up_k (show (230:Int) ≠ 227 by omega), ml_up_k (show (231:Int) ≠ 228 by omega), ml_up_k (show (231:Int) ≠ 228 by omega), ml_up_k (show (231:Int) ≠ 227 by omega), ml_up_k (show (231:Int) ≠ 227 by omega), ml_up_k (show (231:Int) ≠ 228 by omega), ml_up_k (show (231:Int) ≠ 228 by omega), ml_up_k (show (231:Int) ≠ 227 by omega), ml_up_k (show (231:Int) ≠ 227 by omega), w20, w21, w22]
      simp [mt_sgn, mt_str]
  by_cases hc : c = 0
  · rw [if_pos hc] at fin
    refine ⟨fun _ => ⟨mt_i (by omega) (by omega), ?_⟩, fun d => absurd hc d⟩
    unfold f_X12_sign_u26
    refine s_joins r ⟨by omega, by omega⟩ ⟨by omega, by omega⟩ ⟨fun _ _ => ?_, fun d => absurd hc d⟩
    have v : ∀ a b c d, ml_up (ml_up (ml_up (ml_up σ1 227 a b) 227 c d) 228 a 1) 228 c 1 215 2 = h := fun a b c d => by rw [ml_up_k (by omega), ml_up_k (by omega), ml_up_k (by omega), ml_up_k (by omega), th1]
    rw [v]
    refine ⟨mt_i (by omega) (by omega), ?_⟩
    unfold f_X12_sign_u48
    refine ⟨fun _ _ => ?_, fun d => absurd hc d⟩
    rw [v]
    refine ⟨mt_i (by omega) (by omega), mt_i (by omega) (by omega), ?_⟩
    unfold f_X12_sign_u69
    refine s_joins r ⟨by omega, by omega⟩ ⟨by omega, by omega⟩ (fin i (i + 1) (h + i) (h + i + 1) ⟨by omega, by omega⟩ ⟨by omega, by omega⟩ ⟨by omega, by omega⟩ ⟨by omega, by omega⟩ (fun e e0 e1 => ?_))
    unfold mt_sgn
    rw [if_pos (show e < 10 by omega), if_neg (show ¬ ((1:Int) = 0) by omega), if_neg (show ¬ 10 + e < 10 by omega), if_pos (show 10 + e < 20 by omega)]
    constructor
    · (repeat' split) <;> first | rfl | omega
    · by_cases q1 : e = i <;> by_cases q2 : e = i + 1 <;> by_cases q3 : e = h + i <;> by_cases q4 : e = h + i + 1 <;> simp [q1, q2, q3, q4] <;> omega
  · rw [if_neg hc] at fin
    refine ⟨fun d => absurd d hc, fun _ _ => ?_⟩
    rw [th1]
    refine ⟨mt_i (by omega) (by omega), mt_i (by omega) (by omega), ?_⟩
    unfold f_X12_sign_u26
    refine s_joins r ⟨by omega, by omega⟩ ⟨by omega, by omega⟩ ⟨fun d => absurd d hc, fun _ => ⟨mt_i (by omega) (by omega), ?_⟩⟩
    have v : ∀ a b c d, ml_up (ml_up (ml_up (ml_up σ1 227 a b) 227 c d) 228 a 1) 228 c 1 215 2 = h := fun a b c d => by rw [ml_up_k (by omega), ml_up_k (by omega), ml_up_k (by omega), ml_up_k (by omega), th1]
    unfold f_X12_sign_u48
    refine ⟨fun d => absurd d hc, fun _ _ => ?_⟩
    rw [v]
    refine ⟨mt_i (by omega) (by omega), ?_⟩
    unfold f_X12_sign_u69
    refine s_joins r ⟨by omega, by omega⟩ ⟨by omega, by omega⟩ (fin i (h + i + 1) (i + 1) (h + i) ⟨by omega, by omega⟩ ⟨by omega, by omega⟩ ⟨by omega, by omega⟩ ⟨by omega, by omega⟩ (fun e e0 e1 => ?_))
    unfold mt_sgn
    rw [if_pos (show e < 10 by omega), if_pos rfl, if_neg (show ¬ 10 + e < 10 by omega), if_pos (show 10 + e < 20 by omega)]
    constructor
    · (repeat' split) <;> first | rfl | omega
    · by_cases q1 : e = i <;> by_cases q2 : e = i + 1 <;> by_cases q3 : e = h + i <;> by_cases q4 : e = h + i + 1 <;> simp [q1, q2, q3, q4] <;> omega
theorem s_copies {Q : ml_St → Prop} {x1 x2 h : Int} {τ : ml_St} {v : Int → Int} (h2 : 2 ≤ h) (h5 : h ≤ 5) (r1 : 0 ≤ x1 ∧ x1 < 64) (r2 : 0 ≤ x2 ∧ x2 < 64) (d : x1 ≠ x2) (th : τ 215 2 = h) (w : mt_mv h τ x1 v) (k : ∀ σ, mt_mf x2 τ σ → mt_mv h σ x2 v → Q σ) : f_X12_copies τ x1 x2 Q := by
  have L : ∀ (N : Nat) (n : Int) (σ : ml_St), 0 ≤ n → n ≤ 2 * h → 2 * h - n < N → mt_mf x2 τ σ → (∀ e, 0 ≤ e → e < n → σ 227 (10 * x2 + e) = v e ∧ σ 228 (10 * x2 + e) = v (10 + e)) → f_X12_copies_u2 Q (f_X12_copies_u62 Q) N σ x1 x2 n := by
    intro N
    induction N with
    | zero => intro n σ n0 n1 hN; omega
    | succ N ih =>
      intro n σ n0 n1 hN f hr
      have th1 : σ 215 2 = h := by rw [f.2.1 2 (by omega), th]
      have w1 := mt_mv_f h5 f d w
      unfold f_X12_copies_u2
      rw [th1]
      refine fun _ => ⟨mt_i (by omega) (by omega), fun c => ?_, fun c => ⟨mt_i (by omega) (by omega), mt_i (by omega) (by omega), mt_i (by omega) (by omega), mt_i (by omega) (by omega), by omega, by omega, fun _ => ⟨by omega, by omega, fun σ9 s9 => ⟨mt_i (by omega) (by omega), mt_i (by omega) (by omega), mt_i (by omega) (by omega), mt_i (by omega) (by omega), by omega, by omega, fun _ => ⟨by omega, by omega, fun σ15 s15 => ⟨mt_i (by omega) (by omega), fun y e => ?_⟩⟩⟩⟩⟩⟩
      · obtain ⟨-, w20, w21, w22⟩ := w1
        unfold f_X12_copies_u62
        refine ⟨r1.1, r1.2, fun _ => ⟨r2.1, r2.2, fun σ2 s2 => ⟨r1.1, r1.2, fun _ => ⟨r2.1, r2.2, fun σ4 s4 => ⟨r1.1, r1.2, fun _ => ⟨r2.1, r2.2, fun σ6 s6 => ?_⟩⟩⟩⟩⟩⟩
        have u230 : σ2 230 x1 = σ 230 x1 := by rw [s2, ml_up_k (by omega)]
        have u231 : σ4 231 x1 = σ 231 x1 := by rw [s4, ml_up_k (by omega), s2, ml_up_k (by omega)]
        refine k σ6 ?_ ⟨fun e e0 e1 => ?_, ?_⟩
        · rw [s6, s4, s2]
          exact mt_mf_t (mt_mf_t (mt_mf_t f (mt_mf_fld (by omega))) (mt_mf_fld (by omega))) (mt_mf_fld (by omega))
        · rw [s6, s4, s2, ml_up_k (by omega), ml_up_k (by omega), ml_up_k (by omega), ml_up_k (by omega), ml_up_k (by omega), ml_up_k (by omega)]
          exact hr e e0 (by omega)
        · rw [s6, u231, s4, u230, s2, w20, w21, w22]
          simp [ml_up]
      · subst e
        obtain ⟨g1, g2⟩ := w1.1 n n0 (by omega)
        have v9 : σ9 228 (10 * x1 + n) = v (10 + n) := by rw [s9, ml_up_k (by omega), g2]
        refine ih (n + 1) σ15 (by omega) (by omega) (by omega) ?_ (fun e e0 e1 => ?_)
        · rw [s15, s9]
          exact mt_mf_t (mt_mf_t f (mt_mf_row (by omega) (by omega) (by omega))) (mt_mf_row (by omega) (by omega) (by omega))
        · rw [s15, ml_up_k (show (227:Int) ≠ 228 by omega), v9, s9, g1]
          by_cases q : e = n
          · rw [q, ml_up_same, ml_up_same]; exact ⟨rfl, rfl⟩
          · rw [ml_up_i (by omega), ml_up_i (by omega), ml_up_k (by omega)]
            exact hr e e0 (by omega)
  unfold f_X12_copies f_X12_copies_u0
  exact ⟨(2 * h).toNat + 1, L _ 0 τ (by omega) (by omega) (by omega) mt_mf_r (fun e e0 e1 => absurd e1 (by omega))⟩
