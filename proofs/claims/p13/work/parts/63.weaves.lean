/-! straight, a sign, a copy: both sides -/
def mt_str (h : Int) (k : Int) : Int := if k < 10 then (if k < h then k + h else k - h) else 0
def mt_sgn (h i u : Int) (k : Int) : Int :=
  if k < 10 then (if u = 0 then (if k = i then h + i + 1 else if k = h + i + 1 then i else if k = i + 1 then h + i else if k = h + i then i + 1 else mt_str h k) else (if k = i then i + 1 else if k = i + 1 then i else if k = h + i then h + i + 1 else if k = h + i + 1 then h + i else mt_str h k))
  else if k < 20 then (if k = 10 + i ∨ k = 10 + (i + 1) ∨ k = 10 + (h + i) ∨ k = 10 + (h + i + 1) then 1 else 0)
  else if k = 23 then 1 else if k = 24 then (if u = 0 then 1 else 0) else if k = 25 then (if u = 0 then 0 else 1) else 0
theorem mt_str_e {h e : Int} (h5 : h ≤ 5) (e0 : 0 ≤ e) (e1 : e < 2 * h) : mt_str h e = (if e < h then e + h else e - h) ∧ mt_str h (10 + e) = 0 := by
  unfold mt_str
  rw [if_pos (show e < 10 by omega), if_neg (show ¬ 10 + e < 10 by omega)]
  exact ⟨rfl, rfl⟩
theorem mt_str_M {h : Int} (h5 : h ≤ 5) : mt_M h (mt_str h) := by
  intro e e0 e1
  obtain ⟨g, -⟩ := mt_str_e h5 e0 e1
  rw [g]
  by_cases q : e < h
  · rw [if_pos q, (mt_str_e h5 (by omega) (by omega)).1, if_neg (by omega)]; exact ⟨by omega, by omega, by omega, by omega⟩
  · rw [if_neg q, (mt_str_e h5 (by omega) (by omega)).1, if_pos (by omega)]; exact ⟨by omega, by omega, by omega, by omega⟩
theorem mt_sgn_M {h i u : Int} (h5 : h ≤ 5) (i0 : 0 ≤ i) (i1 : i + 2 ≤ h) : mt_M h (mt_sgn h i u) := by
  have s : ∀ e, 0 ≤ e → e < 2 * h → mt_str h e = (if e < h then e + h else e - h) := fun e e0 e1 => (mt_str_e h5 e0 e1).1
  intro e e0 e1
  have key : ∀ x, 0 ≤ x → x < 2 * h → mt_sgn h i u x = (if u = 0 then (if x = i then h + i + 1 else if x = h + i + 1 then i else if x = i + 1 then h + i else if x = h + i then i + 1 else if x < h then x + h else x - h) else (if x = i then i + 1 else if x = i + 1 then i else if x = h + i then h + i + 1 else if x = h + i + 1 then h + i else if x < h then x + h else x - h)) := by
    intro x x0 x1
    unfold mt_sgn
    rw [if_pos (by omega), s x x0 x1]
  by_cases hu : u = 0
  · have key2 : ∀ x, 0 ≤ x → x < 2 * h → mt_sgn h i u x = (if x = i then h + i + 1 else if x = h + i + 1 then i else if x = i + 1 then h + i else if x = h + i then i + 1 else if x < h then x + h else x - h) := fun x x0 x1 => by rw [key x x0 x1, if_pos hu]
    rcases (by omega : e = i ∨ e = h + i + 1 ∨ e = i + 1 ∨ e = h + i ∨ (e < h ∧ e ≠ i ∧ e ≠ i + 1) ∨ (h ≤ e ∧ e ≠ h + i ∧ e ≠ h + i + 1)) with q | q | q | q | q | q
    · have a1 : mt_sgn h i u e = h + i + 1 := by rw [key2 e e0 e1]; (repeat' split) <;> omega
      have a2 : mt_sgn h i u (h + i + 1) = e := by rw [key2 (h + i + 1) (by omega) (by omega)]; (repeat' split) <;> omega
      exact ⟨by omega, by omega, by rw [a1]; exact a2, by omega⟩
    · have a1 : mt_sgn h i u e = i := by rw [key2 e e0 e1]; (repeat' split) <;> omega
      have a2 : mt_sgn h i u (i) = e := by rw [key2 (i) (by omega) (by omega)]; (repeat' split) <;> omega
      exact ⟨by omega, by omega, by rw [a1]; exact a2, by omega⟩
    · have a1 : mt_sgn h i u e = h + i := by rw [key2 e e0 e1]; (repeat' split) <;> omega
      have a2 : mt_sgn h i u (h + i) = e := by rw [key2 (h + i) (by omega) (by omega)]; (repeat' split) <;> omega
      exact ⟨by omega, by omega, by rw [a1]; exact a2, by omega⟩
    · have a1 : mt_sgn h i u e = i + 1 := by rw [key2 e e0 e1]; (repeat' split) <;> omega
      have a2 : mt_sgn h i u (i + 1) = e := by rw [key2 (i + 1) (by omega) (by omega)]; (repeat' split) <;> omega
      exact ⟨by omega, by omega, by rw [a1]; exact a2, by omega⟩
    · have a1 : mt_sgn h i u e = e + h := by rw [key2 e e0 e1]; (repeat' split) <;> omega
      have a2 : mt_sgn h i u (e + h) = e := by rw [key2 (e + h) (by omega) (by omega)]; (repeat' split) <;> omega
      exact ⟨by omega, by omega, by rw [a1]; exact a2, by omega⟩
    · have a1 : mt_sgn h i u e = e - h := by rw [key2 e e0 e1]; (repeat' split) <;> omega
      have a2 : mt_sgn h i u (e - h) = e := by rw [key2 (e - h) (by omega) (by omega)]; (repeat' split) <;> omega
      exact ⟨by omega, by omega, by rw [a1]; exact a2, by omega⟩
  · have key2 : ∀ x, 0 ≤ x → x < 2 * h → mt_sgn h i u x = (if x = i then i + 1 else if x = i + 1 then i else if x = h + i then h + i + 1 else if x = h + i + 1 then h + i else if x < h then x + h else x - h) := fun x x0 x1 => by rw [key x x0 x1, if_neg hu]
    rcases (by omega : e = i ∨ e = h + i + 1 ∨ e = i + 1 ∨ e = h + i ∨ (e < h ∧ e ≠ i ∧ e ≠ i + 1) ∨ (h ≤ e ∧ e ≠ h + i ∧ e ≠ h + i + 1)) with q | q | q | q | q | q
    · have a1 : mt_sgn h i u e = i + 1 := by rw [key2 e e0 e1]; (repeat' split) <;> omega
      have a2 : mt_sgn h i u (i + 1) = e := by rw [key2 (i + 1) (by omega) (by omega)]; (repeat' split) <;> omega
      exact ⟨by omega, by omega, by rw [a1]; exact a2, by omega⟩
    · have a1 : mt_sgn h i u e = h + i := by rw [key2 e e0 e1]; (repeat' split) <;> omega
      have a2 : mt_sgn h i u (h + i) = e := by rw [key2 (h + i) (by omega) (by omega)]; (repeat' split) <;> omega
      exact ⟨by omega, by omega, by rw [a1]; exact a2, by omega⟩
    · have a1 : mt_sgn h i u e = i := by rw [key2 e e0 e1]; (repeat' split) <;> omega
      have a2 : mt_sgn h i u (i) = e := by rw [key2 (i) (by omega) (by omega)]; (repeat' split) <;> omega
      exact ⟨by omega, by omega, by rw [a1]; exact a2, by omega⟩
    · have a1 : mt_sgn h i u e = h + i + 1 := by rw [key2 e e0 e1]; (repeat' split) <;> omega
      have a2 : mt_sgn h i u (h + i + 1) = e := by rw [key2 (h + i + 1) (by omega) (by omega)]; (repeat' split) <;> omega
      exact ⟨by omega, by omega, by rw [a1]; exact a2, by omega⟩
    · have a1 : mt_sgn h i u e = e + h := by rw [key2 e e0 e1]; (repeat' split) <;> omega
      have a2 : mt_sgn h i u (e + h) = e := by rw [key2 (e + h) (by omega) (by omega)]; (repeat' split) <;> omega
      exact ⟨by omega, by omega, by rw [a1]; exact a2, by omega⟩
    · have a1 : mt_sgn h i u e = e - h := by rw [key2 e e0 e1]; (repeat' split) <;> omega
      have a2 : mt_sgn h i u (e - h) = e := by rw [key2 (e - h) (by omega) (by omega)]; (repeat' split) <;> omega
      exact ⟨by omega, by omega, by rw [a1]; exact a2, by omega⟩
theorem mt_up2 {σ : ml_St} {k i v a b : Int} : ml_up σ k i v a b = if a = k ∧ b = i then v else σ a b := rfl
theorem s_beStraight {Q : ml_St → Prop} {th h : Int} {σ : ml_St} (h2 : 2 ≤ h) (h5 : h ≤ 5) (k : ∀ σ', mt_fr th σ σ' → mt_wv h σ' th (mt_str h) → Q σ') : f_X9_beStraight σ th h Q := by
  have L : ∀ (N : Nat) (n : Int) (σ1 : ml_St), 0 ≤ n → n ≤ 2 * h → 2 * h - n < N → mt_fr th σ σ1 → (∀ e, 0 ≤ e → e < n → σ1 (th + 1) e = mt_str h e ∧ σ1 (th + 2) e = mt_str h (10 + e)) → f_X9_beStraight_u2 Q (f_X9_beStraight_u42 Q th) th N σ1 h n := by
    intro N
    induction N with
    | zero => intro n σ1 n0 n1 hN; omega
    | succ N ih =>
      intro n σ1 n0 n1 hN f hr
      unfold f_X9_beStraight_u2
      refine ⟨⟨by omega, by omega⟩, fun c => ?_, fun c => ?_⟩
      · unfold f_X9_beStraight_u42
        intro σ2 s2 σ3 s3 σ4 s4 σ5 s5 σ6 s6 σ7 s7
        refine k σ7 ?_ ?_
        · rw [s7, s6, s5, s4, s3, s2]
          exact mt_fr_t (mt_fr_t (mt_fr_t (mt_fr_t (mt_fr_t (mt_fr_t f mt_fr_up) mt_fr_up) mt_fr_up) mt_fr_up) mt_fr_up) mt_fr_up
        · have u : ∀ j, j ≠ th → σ7 j = σ1 j := fun j hj => by rw [s7, ml_up_k hj, s6, ml_up_k hj, s5, ml_up_k hj, s4, ml_up_k hj, s3, ml_up_k hj, s2, ml_up_k hj]
          refine ⟨fun e e0 e1 => ?_, ?_⟩
          · rw [u (th + 1) (by omega), u (th + 2) (by omega)]
            exact hr e e0 (by omega)
          · rw [s7, s6, s5, s4, s3, s2]
            simp [ml_up, mt_str]
      · have one : ∀ s2, s2 = mt_str h n → f_X9_beStraight_u28 Q (f_X9_beStraight_u2 Q (f_X9_beStraight_u42 Q th) th N) th σ1 h n n s2 := by
          intro s2 es
          unfold f_X9_beStraight_u28
          refine ⟨n0, by omega, fun σ2 g2 => ⟨n0, by omega, fun σ3 g3 => ⟨⟨by omega, by omega⟩, fun y3 e3 => ?_⟩⟩⟩
          subst e3
          refine ih (n + 1) σ3 (by omega) (by omega) (by omega) ?_ (fun e e0 e1 => ?_)
          · rw [g3, g2]; exact mt_fr_t (mt_fr_t f mt_fr_up1) mt_fr_up2
          · rw [g3, ml_up_k (show th + 1 ≠ th + 2 by omega), g2]
            by_cases q : e = n
            · subst q
              rw [ml_up_same, ml_up_same, es, (mt_str_e h5 n0 (by omega)).2]
              exact ⟨rfl, rfl⟩
            · rw [ml_up_i q, ml_up_i q, ml_up_k (show th + 2 ≠ th + 1 by omega)]
              exact hr e e0 (by omega)
        have g := (mt_str_e h5 n0 (show n < 2 * h by omega)).1
        refine ⟨fun d => ⟨⟨by omega, by omega⟩, one _ ?_⟩, fun d => ⟨⟨by omega, by omega⟩, one _ ?_⟩⟩
        · rw [g, if_neg (by omega)]
        · rw [g, if_pos (by omega)]
  unfold f_X9_beStraight f_X9_beStraight_u0
  exact ⟨(2 * h).toNat + 1, L _ 0 σ (by omega) (by omega) (by omega) mt_fr_r (fun e e0 e1 => absurd e1 (by omega))⟩
theorem s_touch {Q : ml_St → Prop} {th x y : Int} {σ : ml_St} (x0 : 0 ≤ x ∧ x < 10) (y0 : 0 ≤ y ∧ y < 10) (k : Q (ml_up (ml_up (ml_up (ml_up σ (th + 1) x y) (th + 1) y x) (th + 2) x 1) (th + 2) y 1)) : f_X9_touch σ th x y Q := by
  unfold f_X9_touch f_X9_touch_u0
  refine ⟨x0.1, x0.2, fun σ1 g1 => ⟨y0.1, y0.2, fun σ2 g2 => ⟨x0.1, x0.2, fun σ3 g3 => ⟨y0.1, y0.2, fun σ4 g4 => ?_⟩⟩⟩⟩
  subst g1; subst g2; subst g3; subst g4
  exact k
theorem s_beSign {Q : ml_St → Prop} {th h x : Int} {σ : ml_St} (h2 : 2 ≤ h) (h5 : h ≤ 5) (x0 : 0 ≤ x) (x1 : x / 2 + 2 ≤ h) (k : ∀ σ', mt_fr th σ σ' → mt_wv h σ' th (mt_sgn h (x / 2) (x % 2)) → Q σ') : f_X9_beSign σ th x h Q := by
  have i0 : 0 ≤ x / 2 := by omega
  have td : Int.tdiv x 2 = x / 2 := by rw [Int.tdiv_eq_ediv_of_nonneg x0]
  have tm : Int.tmod x 2 = x % 2 := by rw [Int.tmod_eq_emod_of_nonneg x0]
  unfold f_X9_beSign f_X9_beSign_u0
  refine s_beStraight h2 h5 (fun σ1 f1 w1 => ?_)
  rw [td, tm]
  obtain ⟨wr, w20, w21, w22, w23, w24, w25⟩ := w1
  generalize hi : x / 2 = i at *
  refine ⟨by omega, ⟨by omega, by omega⟩, fun y3 e3 σ4 s4 => ⟨by omega, ⟨by omega, by omega⟩, ?_⟩⟩
  subst e3
  have fin : ∀ (σ5 : ml_St), (∀ j, j ≠ th + 1 → j ≠ th + 2 → σ5 j = (ml_up (ml_up (ml_up σ1 th 5 1) th 7 (if x % 2 = 0 then 0 else 1)) th 6 (if x % 2 = 0 then 1 else 0)) j) → (∀ e, 0 ≤ e → e < 2 * h → σ5 (th + 1) e = mt_sgn h y3 (x % 2) e ∧ σ5 (th + 2) e = mt_sgn h y3 (x % 2) (10 + e)) → Q σ5 := by
    intro σ5 u hr
    refine k σ5 (fun j h1 h2 h3 => by rw [u j h2 h3, ml_up_k h1, ml_up_k h1, ml_up_k h1, f1 j h1 h2 h3]) ⟨hr, ?_⟩
    rw [u th (by omega) (by omega)]
    simp only [mt_up2]
    simp [w20, w21, w22, mt_sgn, mt_str]
  by_cases c : x % 2 = 0
  · rw [if_pos c, if_pos c] at fin
    refine ⟨fun _ => ?_, fun d => absurd c d⟩
    unfold f_X9_beSign_u26
    intro σ6 s6
    rw [show σ6 th 7 = 0 by rw [s6, ml_up_same]]
    refine fun _ => ⟨fun d => absurd rfl d, fun _ => ?_⟩
    unfold f_X9_beSign_u42
    intro σ7 s7
    rw [show σ7 th 7 = 0 by rw [s7, ml_up_i (by omega), s6, ml_up_same]]
    refine fun _ => ⟨fun _ => ⟨⟨by omega, by omega⟩, ⟨by omega, by omega⟩, ?_⟩, fun d => absurd rfl d⟩
    refine s_touch ⟨by omega, by omega⟩ ⟨by omega, by omega⟩ ⟨⟨by omega, by omega⟩, ⟨by omega, by omega⟩, ?_⟩
    refine s_touch ⟨by omega, by omega⟩ ⟨by omega, by omega⟩ ?_
    unfold f_X9_beSign_u95
    refine fin _ (fun j h1 h2 => ?_) (fun e e0 e1 => ?_)
    · rw [ml_up_k h2, ml_up_k h2, ml_up_k h1, ml_up_k h1, ml_up_k h2, ml_up_k h2, ml_up_k h1, ml_up_k h1, s7, s6, s4]
    · have r1 : σ7 (th + 1) e = mt_str h e := by rw [s7, ml_up_k (by omega), s6, ml_up_k (by omega), s4, ml_up_k (by omega)]; exact (wr e e0 e1).1
      have r2 : σ7 (th + 2) e = 0 := by rw [s7, ml_up_k (by omega), s6, ml_up_k (by omega), s4, ml_up_k (by omega)]; rw [(wr e e0 e1).2, (mt_str_e h5 e0 e1).2]
      simp only [mt_up2, r1, r2]
      unfold mt_sgn
      rw [if_pos (show e < 10 by omega), if_pos c, if_neg (show ¬ 10 + e < 10 by omega), if_pos (show 10 + e < 20 by omega)]
      have ne : th + 1 ≠ th + 2 := by omega
      have ne2 : th + 2 ≠ th + 1 := by omega
      simp only [ne, ne2, false_and, if_false, true_and]
      constructor
      · (repeat' split) <;> first | rfl | omega
      · by_cases q1 : e = y3 <;> by_cases q2 : e = y3 + 1 <;> by_cases q3 : e = h + y3 <;> by_cases q4 : e = h + y3 + 1 <;> simp [q1, q2, q3, q4] <;> omega
  · rw [if_neg c, if_neg c] at fin
    refine ⟨fun d => absurd d c, fun _ => ?_⟩
    unfold f_X9_beSign_u26
    intro σ6 s6
    rw [show σ6 th 7 = 1 by rw [s6, ml_up_same]]
    refine fun _ => ⟨fun _ => ?_, fun d => absurd d (by omega)⟩
    unfold f_X9_beSign_u42
    intro σ7 s7
    rw [show σ7 th 7 = 1 by rw [s7, ml_up_i (by omega), s6, ml_up_same]]
    refine fun _ => ⟨fun d => absurd d (by omega), fun _ => ⟨⟨by omega, by omega⟩, ?_⟩⟩
    refine s_touch ⟨by omega, by omega⟩ ⟨by omega, by omega⟩ ⟨⟨by omega, by omega⟩, ⟨by omega, by omega⟩, ⟨by omega, by omega⟩, ?_⟩
    refine s_touch ⟨by omega, by omega⟩ ⟨by omega, by omega⟩ ?_
    unfold f_X9_beSign_u95
    refine fin _ (fun j h1 h2 => ?_) (fun e e0 e1 => ?_)
    · rw [ml_up_k h2, ml_up_k h2, ml_up_k h1, ml_up_k h1, ml_up_k h2, ml_up_k h2, ml_up_k h1, ml_up_k h1, s7, s6, s4]
    · have r1 : σ7 (th + 1) e = mt_str h e := by rw [s7, ml_up_k (by omega), s6, ml_up_k (by omega), s4, ml_up_k (by omega)]; exact (wr e e0 e1).1
      have r2 : σ7 (th + 2) e = 0 := by rw [s7, ml_up_k (by omega), s6, ml_up_k (by omega), s4, ml_up_k (by omega)]; rw [(wr e e0 e1).2, (mt_str_e h5 e0 e1).2]
      simp only [mt_up2, r1, r2]
      unfold mt_sgn
      rw [if_pos (show e < 10 by omega), if_neg c, if_neg (show ¬ 10 + e < 10 by omega), if_pos (show 10 + e < 20 by omega)]
      have ne : th + 1 ≠ th + 2 := by omega
      have ne2 : th + 2 ≠ th + 1 := by omega
      simp only [ne, ne2, false_and, if_false, true_and]
      constructor
      · (repeat' split) <;> first | rfl | omega
      · by_cases q1 : e = y3 <;> by_cases q2 : e = y3 + 1 <;> by_cases q3 : e = h + y3 <;> by_cases q4 : e = h + y3 + 1 <;> simp [q1, q2, q3, q4] <;> omega
theorem mt_cpy2 {σ : ml_St} {a sp b dp n x y : Int} : ml_cpy σ a sp b dp n x y = if x = b ∧ dp ≤ y ∧ y < dp + n then σ a (sp + (y - dp)) else σ x y := rfl
theorem mt_cpy_k {σ : ml_St} {a sp b dp n x : Int} (q : x ≠ b) : ml_cpy σ a sp b dp n x = σ x := by
  funext y; rw [mt_cpy2, if_neg (fun c => q c.1)]
theorem s_beLike {Q : ml_St → Prop} {th p h : Int} {σ : ml_St} {v : Int → Int} (h5 : h ≤ 5) (d : th + 3 ≤ p ∨ p + 3 ≤ th) (w : mt_wv h σ p v) (k : ∀ σ', mt_fr th σ σ' → mt_wv h σ' th v → Q σ') : f_X9_beLike σ th p Q := by
  obtain ⟨wr, w20, w21, w22, w23, w24, w25⟩ := w
  have np : p ≠ th := by omega
  unfold f_X9_beLike f_X9_beLike_u0
  refine ⟨by omega, by omega, by omega, by omega, by omega, fun σ1 s1 => ⟨by omega, by omega, by omega, by omega, by omega, fun σ2 s2 => ?_⟩⟩
  intro _ σ4 s4 _ σ6 s6 _ σ8 s8 _ σ10 s10 _ σ12 s12 _ σ14 s14
  have p2 : σ2 p = σ p := by rw [s2, mt_cpy_k (by omega), s1, mt_cpy_k (by omega)]
  have p4 : σ4 p = σ p := by rw [s4, ml_up_k np, p2]
  have p6 : σ6 p = σ p := by rw [s6, ml_up_k np, p4]
  have p8 : σ8 p = σ p := by rw [s8, ml_up_k np, p6]
  have p10 : σ10 p = σ p := by rw [s10, ml_up_k np, p8]
  have p12 : σ12 p = σ p := by rw [s12, ml_up_k np, p10]
  have u : ∀ j, j ≠ th → σ14 j = σ2 j := fun j hj => by rw [s14, ml_up_k hj, s12, ml_up_k hj, s10, ml_up_k hj, s8, ml_up_k hj, s6, ml_up_k hj, s4, ml_up_k hj]
  refine k σ14 (fun j h1 h2 h3 => by rw [u j h1, s2, mt_cpy_k h3, s1, mt_cpy_k h2]) ⟨fun e e0 e1 => ?_, ?_⟩
  · rw [u (th + 1) (by omega), u (th + 2) (by omega)]
    have e1' : σ2 (th + 1) e = σ (p + 1) e := by rw [s2, mt_cpy_k (by omega), s1, mt_cpy2, if_pos ⟨rfl, e0, by omega⟩]; congr 1; omega
    have e2' : σ2 (th + 2) e = σ (p + 2) e := by rw [s2, mt_cpy2, if_pos ⟨rfl, e0, by omega⟩, s1, mt_cpy_k (by omega)]; congr 1; omega
    rw [e1', e2']
    exact wr e e0 e1
  · rw [s14, p12, s12, p10, s10, p8, s8, p6, s6, p4, s4, p2, w20, w21, w22, w23, w24, w25]
    simp only [mt_up2]
    simp
