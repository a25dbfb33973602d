/-! which rails the threads from outside meet; what is left over is closed -/
theorem w64_al (x y : Int) : w64 (w64 x + y) = w64 (x + y) := by
  unfold w64
  rw [Int64.ofInt_add, Int64.ofInt_toInt, Int64.ofInt_add]
theorem w64_ar (x y : Int) : w64 (x + w64 y) = w64 (x + y) := by
  unfold w64
  rw [Int64.ofInt_add, Int64.ofInt_toInt, Int64.ofInt_add]
def mt_eq (h : Int) (f a : Int → Int) : Prop := ∀ e, 0 ≤ e → e < 2 * h → f e = a e
theorem mt_eq_P {h : Int} {f g a b : Int → Int} (ef : mt_eq h f a) (eg : mt_eq h g b) {x : Int} (hx : mt_all h x) : mt_P h f g x = mt_P h a b x := by
  obtain ⟨h1, h2⟩ := hx
  unfold mt_P
  by_cases q : x < 2 * h
  · rw [if_pos q, if_pos q, ef x h1 q]
  · rw [if_neg q, if_neg q, eg _ (by omega) (by omega)]
theorem mt_eq_R {h : Int} {f g a b : Int → Int} (ef : mt_eq h f a) (eg : mt_eq h g b) {x : Int} (hx : mt_all h x) : mt_R h f g x = mt_R h a b x := by
  obtain ⟨h1, h2⟩ := hx
  unfold mt_R
  by_cases q : x < 2 * h
  · rw [if_pos q, if_pos q, ef x h1 q]
  · rw [if_neg q, if_neg q, eg _ (by omega) (by omega)]
theorem mt_eq_M {h : Int} {f a : Int → Int} (ef : mt_eq h f a) (ha : mt_M h a) : mt_M h f := by
  intro e h0 h1
  obtain ⟨g1, g2, g3, g4⟩ := ha e h0 h1
  rw [ef e h0 h1, ef _ g1 g2]
  exact ⟨g1, g2, g3, g4⟩
theorem mt_eq_out {h : Int} {f g a b : Int → Int} (ef : mt_eq h f a) (eg : mt_eq h g b) : ∀ (n : Nat) (x : Int), mt_all h x → mt_out h f g n x = mt_out h a b n x := by
  intro n
  induction n with
  | zero => intro x hx; exact mt_eq_P ef eg hx
  | succ n ih =>
    intro x hx
    unfold mt_out
    rw [mt_eq_P ef eg hx]
    by_cases q : h ≤ mt_P h a b x ∧ mt_P h a b x < 3 * h
    · rw [if_pos q, if_pos q]; exact ih _ (mt_in_all (mt_J_inv q).1)
    · rw [if_neg q, if_neg q]
theorem mt_eq_sum {h : Int} {f g a b rf rg ra rb : Int → Int} (ef : mt_eq h f a) (eg : mt_eq h g b) (erf : mt_eq h rf ra) (erg : mt_eq h rg rb) : ∀ (n : Nat) (x acc : Int), mt_all h x → mt_sum h f g rf rg n x acc = mt_sum h a b ra rb n x acc := by
  intro n
  induction n with
  | zero => intro x acc hx; unfold mt_sum; rw [mt_eq_R erf erg hx]
  | succ n ih =>
    intro x acc hx
    unfold mt_sum
    rw [mt_eq_P ef eg hx, mt_eq_R erf erg hx]
    by_cases q : h ≤ mt_P h a b x ∧ mt_P h a b x < 3 * h
    · rw [if_pos q, if_pos q]; exact ih _ _ (mt_in_all (mt_J_inv q).1)
    · rw [if_neg q, if_neg q]
theorem mt_eq_met {h : Int} {f g a b : Int → Int} (ef : mt_eq h f a) (eg : mt_eq h g b) : ∀ (n : Nat) (x m : Int), mt_all h x → mt_met h f g n x m = mt_met h a b n x m := by
  intro n
  induction n with
  | zero => intro x m hx; rfl
  | succ n ih =>
    intro x m hx
    unfold mt_met
    rw [mt_eq_P ef eg hx]
    by_cases q : h ≤ mt_P h a b x ∧ mt_P h a b x < 3 * h
    · rw [if_pos q, if_pos q]; exact ih _ _ (mt_in_all (mt_J_inv q).1)
    · rw [if_neg q, if_neg q]
/-- the thread from x meets rail r -/
def mt_hit (h : Int) (a b : Int → Int) : Nat → Int → Int → Prop
  | 0, _, _ => False
  | n + 1, x, r => (h ≤ mt_P h a b x ∧ mt_P h a b x < 3 * h) ∧ (mt_rl h (mt_P h a b x) = r ∨ mt_hit h a b n (mt_J h (mt_P h a b x)) r)
theorem mt_hit_s {h : Int} {a b : Int → Int} {n : Nat} {x r : Int} : mt_hit h a b (n + 1) x r ↔ (h ≤ mt_P h a b x ∧ mt_P h a b x < 3 * h) ∧ (mt_rl h (mt_P h a b x) = r ∨ mt_hit h a b n (mt_J h (mt_P h a b x)) r) := Iff.rfl
theorem mt_rl_r {h y : Int} (hy : mt_in h y) : 0 ≤ mt_rl h y ∧ mt_rl h y < h := by
  obtain ⟨h1, h2⟩ := hy
  unfold mt_rl
  split <;> omega
theorem mt_met_bit {h : Int} {a b : Int → Int} (h5 : h ≤ 5) : ∀ (n : Nat) (x m : Int), mb_m 5 m → mb_m 5 (mt_met h a b n x m) ∧ ∀ r, 0 ≤ r → r < h → (mb_t (mt_met h a b n x m) r = 1 ↔ mb_t m r = 1 ∨ mt_hit h a b n x r) := by
  intro n
  induction n with
  | zero => intro x m hm; exact ⟨hm, fun r _ _ => ⟨Or.inl, fun q => q.elim id (fun c => c.elim)⟩⟩
  | succ n ih =>
    intro x m hm
    by_cases q : h ≤ mt_P h a b x ∧ mt_P h a b x < 3 * h
    · rw [mt_met_in q]
      have hr := mt_rl_r q
      obtain ⟨s1, s2⟩ := mb_shl_m (k := 5) (by omega) hr.1 (by omega)
      obtain ⟨o1, o2⟩ := mb_or_m (k := 5) (by omega) hm s1
      obtain ⟨i1, i2⟩ := ih (mt_J h (mt_P h a b x)) _ o1
      refine ⟨i1, fun r r0 r1 => ?_⟩
      rw [i2 r r0 r1, o2 r r0 (by omega), s2 r r0 (by omega)]
      rw [mt_hit_s]
      by_cases c : mb_t m r = 1
      · simp [c]
      · by_cases d : r = mt_rl h (mt_P h a b x)
        · subst d; simp [q]
        · simp only [c, d, false_or, if_false, q]
          simp [Ne.symm d]
    · rw [mt_met_out q]
      refine ⟨hm, fun r _ _ => ?_⟩
      rw [mt_hit_s]
      simp only [q, false_and, or_false]
theorem mt_hit_W {h : Int} {a b : Int → Int} {r : Int} : ∀ (N : Nat) (n : Nat) (w : Nat → Int) (s x : Int), mt_W h a b n w s x → n ≤ N → (mt_hit h a b N s r ↔ ∃ i, i < n ∧ mt_rl h (mt_P h a b (w i)) = r) := by
  intro N
  induction N with
  | zero =>
    intro n w s x hw hn
    have : n = 0 := by omega
    subst this
    exact ⟨fun c => c.elim, fun ⟨i, hi, _⟩ => absurd hi (by omega)⟩
  | succ N ih =>
    intro n w s x hw hn
    cases n with
    | zero =>
      have ho : ¬ (h ≤ mt_P h a b s ∧ mt_P h a b s < 3 * h) := fun c => hw.2.2.2 (by rw [hw.2.2.1, hw.1]; exact c)
      rw [mt_hit_s]
      exact ⟨fun c => absurd c.1 ho, fun ⟨i, hi, _⟩ => absurd hi (by omega)⟩
    | succ n =>
      obtain ⟨g1, g2⟩ := mt_W_shift hw
      have e := ih n _ _ x g2 (by omega)
      rw [mt_hit_s]
      rw [e]
      constructor
      · rintro ⟨_, c | ⟨i, hi, c⟩⟩
        · exact ⟨0, by omega, by rw [hw.1]; exact c⟩
        · exact ⟨i + 1, by omega, c⟩
      · rintro ⟨i, hi, c⟩
        refine ⟨g1, ?_⟩
        cases i with
        | zero => left; rw [hw.1] at c; exact c
        | succ i => right; exact ⟨i, by omega, c⟩
/-- no thread from outside meets r -/
def mt_U (h : Int) (a b : Int → Int) (r : Int) : Prop := ∀ e, 0 ≤ e → e < 2 * h → ¬ mt_hit h a b 10 (mt_s h e) r
theorem mt_U_cl {h : Int} {a b : Int → Int} (h5 : h ≤ 5) (ha : mt_M h a) (hb : mt_M h b) {y : Int} (hy : mt_in h y) (u : mt_U h a b (mt_rl h y)) : mt_in h (mt_P h a b y) ∧ mt_U h a b (mt_rl h (mt_P h a b y)) := by
  have hA := mt_in_all hy
  obtain ⟨p1, p2, p3⟩ := mt_P_inv ha hb hA
  have rJ : mt_rl h (mt_J h y) = mt_rl h y := by
    obtain ⟨y1, y2⟩ := hy
    unfold mt_rl mt_J
    by_cases q : y < 2 * h
    · rw [if_pos q, if_pos q, if_neg (by omega)]; omega
    · rw [if_neg q, if_neg q, if_pos (by omega)]; omega
  have i1 : mt_in h (mt_P h a b y) := by
    rcases Classical.em (mt_in h (mt_P h a b y)) with c | c
    · exact c
    · exfalso
      obtain ⟨e1, e2, e3⟩ := mt_e_s p1 c
      refine u _ e1 e2 ?_
      rw [e3]
      rw [mt_hit_s]
      rw [p2]
      exact ⟨hy, Or.inl rfl⟩
  refine ⟨i1, fun e h0 h1 hit => ?_⟩
  obtain ⟨s1, s2, s3⟩ := mt_s_all h0 h1
  obtain ⟨n, x, hw, hn, hx⟩ := mt_exist ha hb s1 s2
  have hn10 : n ≤ 10 := by omega
  obtain ⟨i, hi, c⟩ := (mt_hit_W 10 n _ _ x hw hn10).1 hit
  have nu : ∀ i, i < n → mt_rl h (mt_P h a b (mt_it h a b (mt_s h e) i)) ≠ mt_rl h y := fun i hi c => u e h0 h1 ((mt_hit_W 10 n _ _ x hw hn10).2 ⟨i, hi, c⟩)
  have wA := mt_W_all ha hb s1 hw
  have wi := (hw.2.1 i hi).1
  have two : mt_P h a b (mt_it h a b (mt_s h e) i) = mt_P h a b y ∨ mt_P h a b (mt_it h a b (mt_s h e) i) = mt_J h (mt_P h a b y) := by
    revert c wi i1
    generalize mt_P h a b (mt_it h a b (mt_s h e) i) = u
    generalize mt_P h a b y = v
    intro i1 c wi
    obtain ⟨v1, v2⟩ := i1
    obtain ⟨u1, u2⟩ := wi
    unfold mt_rl at c
    unfold mt_J
    by_cases q : u < 2 * h <;> by_cases q2 : v < 2 * h
    · rw [if_pos q, if_pos q2] at c; left; omega
    · rw [if_pos q, if_neg q2] at c; right; rw [if_neg q2]; omega
    · rw [if_neg q, if_pos q2] at c; right; rw [if_pos q2]; omega
    · rw [if_neg q, if_neg q2] at c; left; omega
  rcases two with t | t
  · have e1 : mt_it h a b (mt_s h e) i = y := by
      rw [← (mt_P_inv ha hb (wA i (by omega))).2.1, t, p2]
    cases i with
    | zero =>
      have : mt_s h e = y := by rw [← hw.1]; exact e1
      exact s2 (by rw [this]; exact hy)
    | succ i =>
      have g := hw.2.1 i (by omega)
      rw [g.2] at e1
      refine nu i (by omega) ?_
      rw [← rJ, ← e1, (mt_J_inv g.1).2.1]
  · have g := hw.2.1 i hi
    have e1 : mt_it h a b (mt_s h e) (i + 1) = mt_P h a b y := by rw [g.2, t, (mt_J_inv i1).2.1]
    have e2 : mt_P h a b (mt_it h a b (mt_s h e) (i + 1)) = y := by rw [e1, p2]
    rcases Nat.lt_or_ge (i + 1) n with l | l
    · exact nu (i + 1) l (by rw [e2])
    · have : n = i + 1 := by omega
      subst this
      exact hw.2.2.2 (by rw [hw.2.2.1, e2]; exact hy)
