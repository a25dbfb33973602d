/-! the class: shortest, cheapest (that they end) -/
def mt_f70 (σ σ' : ml_St) : Prop := ∀ j, (j < 70 ∨ 75 < j) → σ' j = σ j
theorem mt_f70_t {σ σ1 σ2 : ml_St} (a : mt_f70 σ σ1) (b : mt_f70 σ1 σ2) : mt_f70 σ σ2 := fun j hj => by rw [b j hj, a j hj]
theorem mt_f70_up {k i v : Int} {σ : ml_St} (h1 : 70 ≤ k) (h2 : k ≤ 75) : mt_f70 σ (ml_up σ k i v) := fun j hj => ml_up_k (by omega)
theorem s_answer {Q : Int → ml_St → Prop} {x : Int} {σ : ml_St} (s1 : σ 70 5 ≤ 2838) (k : ∀ r, Q r σ) : f_X1_answer σ x Q := by
  unfold f_X1_answer f_X1_answer_u0
  unfold f_X1_answer_u31 f_X1_answer_u32
  exact ⟨fun _ => ⟨fun _ => k _, fun _ _ => ⟨fun _ => k _, fun _ => ⟨by omega, by omega, fun _ => k _⟩⟩⟩, fun _ _ => k _⟩
theorem mt_nx_k {L P : Int} {σ σ' : ml_St} (f : mt_f70 σ σ') (n : mt_nx L P σ) : mt_nx L P σ' := by
  unfold mt_nx; rw [f 55 (by omega), f 58 (by omega), f 59 (by omega)]; exact n
theorem mt_f70_kp {σ σ' : ml_St} (f : mt_f70 σ σ') : mt_kp σ σ' := fun j hj => f j (by omega)
theorem mt_cl_1 {h : Int} {α β : Int → Int} (h2 : 1 ≤ h) : 1 ≤ mt_cl h α β := by
  have z : ∀ n : Nat, 1 ≤ (mt_lbs α β (n + 1)).2 := by
    intro n
    induction n with
    | zero =>
      show 1 ≤ (if mb_t (mt_lbs α β 0).1 ((0 : Nat) : Int) = 0 then (b_or (mt_lbs α β 0).1 (mt_lm α β ((0 : Nat) : Int)), (mt_lbs α β 0).2 + 1) else mt_lbs α β 0).2
      rw [show mb_t (mt_lbs α β 0).1 ((0 : Nat) : Int) = 0 from mb_0 _, if_pos rfl]
      show (1 : Int) ≤ 0 + 1
      omega
    | succ n ih =>
      show 1 ≤ (if mb_t (mt_lbs α β (n + 1)).1 ((n + 1 : Nat) : Int) = 0 then (b_or (mt_lbs α β (n + 1)).1 (mt_lm α β ((n + 1 : Nat) : Int)), (mt_lbs α β (n + 1)).2 + 1) else mt_lbs α β (n + 1)).2
      split
      · show 1 ≤ (mt_lbs α β (n + 1)).2 + 1; omega
      · exact ih
  unfold mt_cl
  obtain ⟨n, hn⟩ : ∃ n, (2 * h).toNat = n + 1 := ⟨(2 * h).toNat - 1, by omega⟩
  rw [hn]; exact z n
theorem s_answer_x {Q : Int → ml_St → Prop} {x : Int} {σ : ml_St} (s1 : σ 70 5 ≤ 2838) (k : Q (if x = -1 then σ 70 5 else if 0 ≤ x ∧ x < σ 70 5 then σ 74 x else -1) σ) : f_X1_answer σ x Q := by
  unfold f_X1_answer f_X1_answer_u0
  unfold f_X1_answer_u31 f_X1_answer_u32
  refine ⟨fun z => ?_, fun z => ?_⟩
  · rw [if_neg z] at k
    refine ⟨fun z1 => ?_, fun z1 _ => ⟨fun z2 => ?_, fun z2 => ⟨by omega, by omega, fun _ => ?_⟩⟩⟩
    · rw [if_neg (by omega)] at k; exact k
    · rw [if_neg (by omega)] at k; exact k
    · rw [if_pos (by omega)] at k; exact k
  · rw [if_pos z] at k; exact fun _ => k
/-- the way back from a state: m letters, the word v -/
def cz_t (L : Int) (l : Int → Int) (σ : ml_St) : Nat → Int → Int → Prop
  | 0, s, v => s = 0 ∧ v = 0
  | m + 1, s, v => 1 ≤ s ∧ s < 2838 ∧ ∃ v' a, 0 ≤ a ∧ a < L ∧ v = 7 * v' + a + 1 ∧ σ 73 s = l a ∧ cz_t L l σ m (σ 72 s) v'
theorem cz_t_m {L : Int} {l : Int → Int} {σ : ml_St} {nx e : Int → Int → Int} (n : ∀ m v p l, mz_w L nx e m v p l → 0 ≤ v) (L6 : L ≤ 6) : ∀ (m m' : Nat) (s v p q : Int), cz_t L l σ m s v → mz_w L nx e m' v p q → 0 ≤ v ∧ m = m' := by
  intro m
  induction m with
  | zero =>
    intro m' s v p q h h'
    have h0 := h.2
    cases m' with
    | zero => exact ⟨by omega, rfl⟩
    | succ m' =>
      obtain ⟨v1, p1, l1, a, h1, a0, a1, h2, -⟩ := h'
      have := n _ _ _ _ h1
      omega
  | succ m ih =>
    intro m' s v p q h h'
    obtain ⟨s1, s2, v1, a, a0, a1, h2, -, h1⟩ := h
    have v0 := n _ _ _ _ h'
    cases m' with
    | zero =>
      have v0' : 0 ≤ v1 := by
        have : ∀ (m : Nat) (s v : Int), cz_t L l σ m s v → 0 ≤ v := by
          intro m
          induction m with
          | zero => intro s v h; have := h.2; omega
          | succ m ih => intro s v h; obtain ⟨-, -, v', a, a0, a1, e, -, h⟩ := h; have := ih _ _ h; omega
        exact this _ _ _ h1
      have := h'.1; omega
    | succ m' =>
      obtain ⟨v2, p2, l2, b, h3, b0, b1, h4, -⟩ := h'
      have x2 := n _ _ _ _ h3
      have : v1 = v2 := by omega
      subst this
      exact ⟨v0, by rw [(ih m' _ v1 p2 l2 h1 h3).2]⟩
theorem s_traceBack {Q : ml_St → Prop} {L : Int} {l : Int → Int} {m : Nat} {s V : Int} {σ0 : ml_St} (L6 : L ≤ 6) (m2 : m ≤ 2838) (t : cz_t L l σ0 m s V) (k : ∀ σ : ml_St, (∀ j, j ≠ 70 → j ≠ 74 → σ j = σ0 j) → σ 70 5 = m → (∀ i : Nat, i < m → σ 74 i = l (mz_d V (m - 1 - i))) → Q σ) : f_X1_traceBack σ0 s Q := by
  have B : ∀ (N : Nat) (r : Nat) (a v : Int) (σ : ml_St), r < N → r ≤ m → cz_t L l σ0 r a v → (∀ t : Nat, mz_d V (m - r + t) = mz_d v t) → (∀ i : Nat, r ≤ i → i < m → σ 74 i = l (mz_d V (m - 1 - i))) → (∀ j, j ≠ 70 → j ≠ 74 → σ j = σ0 j) → σ 70 5 = m → f_X1_traceBack_u50 Q (f_X1_traceBack_u79 Q) N σ a ((r : Int) - 1) := by
    intro N
    induction N with
    | zero => intro r a v σ hN; omega
    | succ N ih =>
      intro r a v σ hN rm t hd h74 f z
      unfold f_X1_traceBack_u50
      unfold f_X1_traceBack_u79
      refine ⟨fun c => k σ f z (fun i hi => h74 i (by omega) hi), fun c => ?_⟩
      obtain ⟨r', rfl⟩ : ∃ r', r = r' + 1 := ⟨r - 1, by omega⟩
      obtain ⟨a0, a1, v', b, b0, b1, ev, eb, t'⟩ := t
      refine ⟨by omega, a1, fun _ => ⟨by omega, by omega, fun σ3 s3 => ⟨by omega, a1, fun _ y5 e5 => ⟨mt_I (by omega) (by omega), fun y6 e6 => ?_⟩⟩⟩⟩
      have k3 : ∀ j, j ≠ 74 → σ3 j = σ j := fun j hj => by rw [s3, ml_up_k hj]
      rw [k3 72 (by omega), f 72 (by omega) (by omega)] at e5
      have e6 : y6 = (r' : Int) - 1 := by omega
      rw [e5, e6]
      have hv : v / 7 = v' := by omega
      refine ih r' (σ0 72 a) v' σ3 (by omega) (by omega) t' (fun t => ?_) (fun i hi im => ?_) (fun j h1 h2 => by rw [k3 j h2, f j h1 h2]) (by rw [k3 70 (by omega)]; exact z)
      · have := hd (t + 1)
        rw [show m - r' + t = m - (r' + 1) + (t + 1) by omega, this]
        show mz_d (v / 7) t = _
        rw [hv]
      · rw [s3]
        by_cases w : i = r'
        · rw [w, show ((r' + 1 : Nat) : Int) - 1 = (r' : Int) by omega, ml_up_same, f 73 (by omega) (by omega), eb]
          have := hd 0
          rw [show m - (r' + 1) + 0 = m - 1 - r' by omega] at this
          rw [this]
          show l b = l (v % 7 - 1)
          rw [show v % 7 - 1 = b by omega]
        · rw [ml_up_i (by omega)]; exact h74 i (by omega) im
  have A : ∀ (N : Nat) (c r : Nat) (a v : Int) (σ : ml_St), r < N → c + r = m → cz_t L l σ0 r a v → (∀ j, j ≠ 70 → σ j = σ0 j) → σ 70 5 = c → f_X1_traceBack_u7 Q (f_X1_traceBack_u41 Q) N σ s a := by
    intro N
    induction N with
    | zero => intro c r a v σ hN; omega
    | succ N ih =>
      intro c r a v σ hN cr ta f z
      have OUT : r = 0 → f_X1_traceBack_u41 Q σ s := fun r0 => by
        unfold f_X1_traceBack_u41
        have : c = m := by omega
        rw [z, this]
        refine fun _ => ⟨mt_I (by omega) (by omega), fun y3 e3 => ⟨2850, ?_⟩⟩
        rw [e3]
        exact B 2850 m s V σ (by omega) (Nat.le_refl m) t (fun t => by rw [show m - m + t = t by omega]) (fun i h1 h2 => by omega) (fun j h1 h2 => f j h1) (by rw [z, this])
      unfold f_X1_traceBack_u7
      rw [z]
      refine ⟨fun e => OUT ?_, fun e _ => ⟨fun _ => OUT (by omega), fun c2 _ => ⟨mt_I (by omega) (by omega), fun σ6 s6 => ?_⟩⟩⟩
      · cases r with
        | zero => rfl
        | succ r => have := ta.1; omega
      · cases r with
        | zero => exact absurd ta.1 e
        | succ r =>
          obtain ⟨a0, a1, v', b, b0, b1, ev, eb, t'⟩ := ta
          refine ⟨by omega, a1, fun _ y8 e8 => ?_⟩
          rw [s6, ml_up_k (by omega), f 72 (by omega)] at e8
          rw [e8]
          exact ih (c + 1) r (σ0 72 a) v' σ6 (by omega) (by omega) t' (fun j hj => by rw [s6, ml_up_k hj, f j hj]) (by rw [s6, ml_up_same]; omega)
  unfold f_X1_traceBack f_X1_traceBack_u0
  intro σ1 g1
  exact ⟨m + 1, A _ 0 m s V σ1 (by omega) (by omega) t (fun j hj => by rw [g1, ml_up_k hj]) (by rw [g1, ml_up_same]; rfl)⟩
/-- the class's queue: states, where each came from, by which letter -/
def cz_s (L : Int) (l : Int → Int) (σ : ml_St) (tail : Nat) (P U V : Nat → Int) : Prop := (∀ j : Nat, j < tail → σ 71 j = 3 * P j + U j ∧ σ 72 (σ 71 j) ≠ -1) ∧ (∀ j : Nat, 1 ≤ j → j < tail → ∃ (j' : Nat) (a : Int), j' < j ∧ 0 ≤ a ∧ a < L ∧ σ 72 (σ 71 j) = σ 71 j' ∧ σ 73 (σ 71 j) = l a ∧ V j = 7 * V j' + a + 1) ∧ (∀ s, 0 ≤ s → s < 2838 → σ 72 s ≠ -1 → ∃ j : Nat, j < tail ∧ s = σ 71 j) ∧ ∀ i j : Nat, i < j → j < tail → σ 71 i ≠ σ 71 j
theorem cz_room {L s : Int} {l : Int → Int} {σ : ml_St} {tail : Nat} {P U V : Nat → Int} (c : cz_s L l σ tail P U V) (r : ∀ j : Nat, j < tail → 0 ≤ σ 71 j ∧ σ 71 j < 2838) (s0 : 0 ≤ s) (s1 : s < 2838) (sv : σ 72 s = -1) : tail < 2838 := by
  by_cases z : tail < 2838
  · exact z
  · exfalso
    obtain ⟨i, j, hij, hj, e⟩ := mt_ph 2838 (fun i => if i < 2838 then σ 71 i else s) (fun i hi => by
      show 0 ≤ (if i < 2838 then σ 71 i else s) ∧ (if i < 2838 then σ 71 i else s) < ((2838 : Nat) : Int)
      split
      · rename_i z; have := r i (by omega); omega
      · omega)
    have e : (if i < 2838 then σ 71 i else s) = (if j < 2838 then σ 71 j else s) := e
    rw [if_pos (by omega)] at e
    by_cases z : j < 2838
    · rw [if_pos z] at e
      exact c.2.2.2 i j hij (by omega) e
    · rw [if_neg z] at e
      have := (c.1 i (by omega)).2
      rw [e] at this
      exact this sv
theorem cz_t_of {L : Int} {l : Int → Int} {σ : ml_St} {tail : Nat} {P U V : Nat → Int} (c : cz_s L l σ tail P U V) (r : ∀ j : Nat, 1 ≤ j → j < tail → 1 ≤ σ 71 j ∧ σ 71 j < 2838) (p0 : σ 71 0 = 0) (v0 : V 0 = 0) : ∀ (b j : Nat), j ≤ b → j < tail → ∃ m : Nat, m ≤ j ∧ cz_t L l σ m (σ 71 j) (V j) := by
  intro b
  induction b with
  | zero =>
    intro j hb hj
    have : j = 0 := by omega
    subst this
    exact ⟨0, Nat.le_refl 0, p0, v0⟩
  | succ b ih =>
    intro j hb hj
    by_cases z : j = 0
    · exact ih j (by omega) hj
    · obtain ⟨j', a, y1, y2, y3, y4, y5, y6⟩ := c.2.1 j (by omega) hj
      obtain ⟨m, m1, m2⟩ := ih j' (by omega) (by omega)
      obtain ⟨r1, r2⟩ := r j (by omega) hj
      exact ⟨m + 1, by omega, r1, r2, V j', a, y2, y3, y6, y5, by rw [y4]; exact m2⟩
theorem s_findShortest {Q : ml_St → Prop} {L P x : Int} {X e : Int → Int → Int} {cT : Int → Int} {σ0 : ml_St} (L1 : 1 ≤ L) (L6 : L ≤ 6) (P0 : 1 ≤ P) (P1 : P ≤ 946) (nx : mt_nx L P σ0) (hX : ∀ p a, X p a = σ0 58 (6 * p + a)) (he : ∀ p a, 0 ≤ p → p < P → 0 ≤ a → a < L → σ0 59 (6 * p + a) = min 3 (e p a)) (cl : ∀ p, 0 ≤ p → p < P → σ0 60 p = cT p ∧ 1 ≤ cT p ∧ cT p ≤ 10) (x3 : x ≤ 3) (k0 : ∀ σ, mt_f70 σ0 σ → mz_N L X e cT x → σ 70 5 = -1 → Q σ) (k : ∀ σ (m : Nat) V, mt_f70 σ0 σ → mz_M L X e cT x m V → m ≤ 2838 → σ 70 5 = m → (∀ i : Nat, i < m → σ 74 i = σ0 56 (mz_d V (m - 1 - i))) → Q σ) : f_X1_findShortest σ0 x Q := by
  obtain ⟨n1, n2, n3⟩ := nx
  have zn : mz_n L P X e := fun p a p0 p1 a0 a1 => by
    have a := n3 p a p0 p1 a0 a1
    have b := he p _ p0 p1 a0 a1
    rw [hX]; omega
  have wr := mz_w_r P0 zn
  have wv : ∀ m v p l, mz_w L X e m v p l → 0 ≤ v := fun m v p l h => (wr m v p l h).2.2.2
  -- a word that leaves x loops leads to a state that has a place in the queue
  have sat : ∀ (m : Nat) (v p l : Int), mz_w L X e (m + 1) v p l → l + cT p = x → l < 3 ∧ 1 ≤ p := fun m v p l h hx => by
    obtain ⟨r1, r2, r3, r4⟩ := wr _ _ _ _ h
    obtain ⟨v', p', l', a, h1, a0, a1, h2, h3, h4⟩ := h
    have q := wr _ _ _ _ h1
    have := (zn p' a q.1 q.2.1 a0 a1).1
    have := cl p r1 r2
    omega
  have H : ∀ (N : Nat) (hd tail : Nat) (σ : ml_St) (P' U V : Nat → Int), hd ≤ tail → tail ≤ 2838 → 2838 - (hd : Int) < N → mt_f70 σ0 σ → σ 70 5 = -1 → mz_q 3 L P X e tail hd 0 P' U V → cz_s L (σ0 56) σ tail P' U V → (∀ j : Nat, 1 ≤ j → j < tail → U j + cT (P' j) ≠ x) → f_X1_findShortest_u32 Q (f_X1_findShortest_u215 Q) N σ x tail hd := by
    intro N
    induction N with
    | zero => intro hd tail σ P' U V h0 h1 hN; omega
    | succ N ih =>
      intro hd tail σ P' U V h0 h1 hN f z5 q c ns
      unfold f_X1_findShortest_u32
      rw [z5]
      refine ⟨fun c1 => ?_, fun c1 => ⟨fun c2 => by omega, fun c2 _ => ⟨fun c3 => absurd rfl c3, fun _ => ⟨by omega, by omega, fun _ y6 e6 => ?_⟩⟩⟩⟩
      · unfold f_X1_findShortest_u215
        refine k0 σ f (fun m v p l h hx => ?_) z5
        obtain ⟨s1, s2⟩ := sat m v p l h hx
        obtain ⟨j, j1, j2, j3, j4⟩ := mz_cov P0 zn q (by omega) _ v p l h s1 (fun z => by omega)
        have : j ≠ 0 := fun z => by rw [z, q.2.1.1] at j2; omega
        exact ns j (by omega) j1 (by rw [j2, j3]; exact hx)
      have ht : hd < tail := by omega
      obtain ⟨a0, a1, u0, u1, -⟩ := q.2.2.1 hd ht
      have e6' : y6 = 3 * P' hd + U hd := by rw [e6, (c.1 hd ht).1]
      have td : Int.tdiv y6 3 = P' hd := by rw [Int.tdiv_eq_ediv_of_nonneg (by omega)]; omega
      have tm : Int.tmod y6 3 = U hd := by rw [Int.tmod_eq_emod_of_nonneg (by omega)]; omega
      rw [td]
      refine ⟨by omega, mt_I (by omega) (by omega), fun y8 e8 => ⟨10, ?_⟩⟩
      subst e8
      have I : ∀ (M : Nat) (i : Int) (tail : Nat) (σ : ml_St) (P'' U' V' : Nat → Int), 0 ≤ i → i ≤ L → L - i < M → hd < tail → tail ≤ 2838 → mt_f70 σ0 σ → σ 70 5 = -1 → mz_q 3 L P X e tail hd i P'' U' V' → cz_s L (σ0 56) σ tail P'' U' V' → (∀ j : Nat, 1 ≤ j → j < tail → U' j + cT (P'' j) ≠ x) → P'' hd = P' hd → U' hd = U hd → σ 71 hd = y6 → f_X1_findShortest_u72 Q (f_X1_findShortest_u209 Q (f_X1_findShortest_u32 Q (f_X1_findShortest_u215 Q) N)) M σ x tail hd y6 (P' hd) i := by
        intro M
        induction M with
        | zero => intro i tail σ P'' U' V' i0 i1 hM; omega
        | succ M ihM =>
          intro i tail σ P'' U' V' i0 i1 hM ht t2 f z5 q c ns eP eU ey
          unfold f_X1_findShortest_u72
          rw [f 55 (by omega), n1, z5]
          refine fun _ => ⟨fun c1 => ?_, fun c1 _ => ⟨fun c2 => absurd rfl c2, fun c2 => ⟨mt_I (by omega) (by omega), mt_I (by omega) (by omega), fun y7 e7 => ?_⟩⟩⟩
          · unfold f_X1_findShortest_u209
            refine ⟨mt_I (by omega) (by omega), fun y e => ?_⟩
            have e : y = ((hd + 1 : Nat) : Int) := by omega
            have ei : i = L := by omega
            rw [ei] at q
            rw [e]
            exact ih (hd + 1) tail σ P'' U' V' (by omega) t2 (by omega) f z5 (mz_q_next L6 q ht) c ns
          have hi : i < L := by omega
          obtain ⟨m1, m2, m3, m4⟩ := n3 (P' hd) i a0 a1 i0 hi
          have hXi := hX (P' hd) i
          have hei := he (P' hd) i a0 a1 i0 hi
          rw [show 6 * P' hd + i = y7 by omega] at m1 m2 m3 m4 hXi hei
          rw [f 59 (by omega), f 58 (by omega), tm, ← hXi, hei]
          rw [← hXi] at m1 m2
          rw [hei] at m3 m4
          generalize hE : e (P' hd) i = E at *
          generalize hY : X (P' hd) i = Y at *
          refine ⟨by omega, mt_I (by omega) (by omega), by omega, by omega, fun _ => ⟨mt_I (by omega) (by omega), fun y11 e11 => ⟨by omega, by omega, fun _ => ⟨mt_I (by omega) (by omega), mt_I (by omega) (by omega), fun y15 e15 => ?_⟩⟩⟩⟩
          have nxt : ∀ (tail : Nat) σ (P'' U' V' : Nat → Int), hd < tail → tail ≤ 2838 → mt_f70 σ0 σ → σ 70 5 = -1 → mz_q 3 L P X e tail hd (i + 1) P'' U' V' → cz_s L (σ0 56) σ tail P'' U' V' → (∀ j : Nat, 1 ≤ j → j < tail → U' j + cT (P'' j) ≠ x) → P'' hd = P' hd → U' hd = U hd → σ 71 hd = y6 → f_X1_findShortest_u203 Q (f_X1_findShortest_u72 Q (f_X1_findShortest_u209 Q (f_X1_findShortest_u32 Q (f_X1_findShortest_u215 Q) N)) M) σ x tail hd y6 (P' hd) i := by
            intro tail σ P'' U' V' ht t2 f z5 q c ns eP eU ey
            unfold f_X1_findShortest_u203
            refine ⟨mt_I (by omega) (by omega), fun y e => ?_⟩
            subst e
            exact ihM (i + 1) tail σ P'' U' V' (by omega) (by omega) (by omega) ht t2 f z5 q c ns eP eU ey
          refine ⟨fun c3 => nxt tail σ P'' U' V' ht t2 f z5 (mz_q_skip q ht (fun h => ?_)) c ns eP eU ey, fun c3 => ⟨by omega, by omega, fun _ => ⟨fun c4 => nxt tail σ P'' U' V' ht t2 f z5 (mz_q_skip q ht (fun h => ?_)) c ns eP eU ey, fun c4 => ⟨by omega, by omega, fun σ19 s19 => ⟨i0, by omega, fun _ => ⟨by omega, by omega, fun σ21 s21 => ?_⟩⟩⟩⟩⟩⟩
          · rw [eP, eU, hE] at h; omega
          · obtain ⟨j', j1, j2⟩ := c.2.2.1 y15 (by omega) (by omega) c4
            have cj := (c.1 j' j1).1
            obtain ⟨b0, b1, b2, b3, -⟩ := q.2.2.1 j' j1
            refine ⟨j', j1, ?_, ?_⟩
            · rw [eP, hY]; omega
            · rw [eP, eU, hE]; omega
          have room := cz_room c (fun j hj => by
            have cj := (c.1 j hj).1
            obtain ⟨b0, b1, b2, b3, -⟩ := q.2.2.1 j hj
            omega) (show 0 ≤ y15 by omega) (by omega) c4
          refine ⟨by omega, by omega, fun σ22 s22 => ⟨mt_I (by omega) (by omega), fun y23 e23 => ?_⟩⟩
          have f22 : mt_f70 σ0 σ22 := by
            rw [s22, s21, s19]
            exact mt_f70_t f (mt_f70_t (mt_f70_t (mt_f70_up (by omega) (by omega)) (mt_f70_up (by omega) (by omega))) (mt_f70_up (by omega) (by omega)))
          have e72 : ∀ s, σ22 72 s = if s = y15 then y6 else σ 72 s := fun s => by
            rw [s22, ml_up_k (by omega), s21, ml_up_k (by omega), s19]
            by_cases z : s = y15
            · rw [if_pos z, z, ml_up_same]
            · rw [if_neg z, ml_up_i z]
          have e73 : ∀ s, σ22 73 s = if s = y15 then σ0 56 i else σ 73 s := fun s => by
            rw [s22, ml_up_k (by omega), s21]
            by_cases z : s = y15
            · rw [if_pos z, z, ml_up_same, s19, ml_up_k (by omega), f 56 (by omega)]
            · rw [if_neg z, ml_up_i z, s19, ml_up_k (by omega)]
          have e71 : ∀ j : Nat, j < tail → σ22 71 j = σ 71 j := fun j hj => by
            rw [s22, ml_up_i (by omega), s21, ml_up_k (by omega), s19, ml_up_k (by omega)]
          have e71t : σ22 71 tail = y15 := by rw [s22, ml_up_same]
          have e70 : σ22 70 = σ 70 := by rw [s22, ml_up_k (by omega), s21, ml_up_k (by omega), s19, ml_up_k (by omega)]
          have ne : ∀ j : Nat, j < tail → σ 71 j ≠ y15 := fun j hj z => (c.1 j hj).2 (by rw [z]; exact c4)
          have iP : ∀ (g : Nat → Int) (w : Int) (j : Nat), j < tail → (fun j : Nat => if j = tail then w else g j) j = g j := fun g w j hj => if_neg (by omega)
          have iT : ∀ (g : Nat → Int) (w : Int), (fun j : Nat => if j = tail then w else g j) tail = w := fun g w => if_pos rfl
          have y11E : y11 = U hd + E := by omega
          have Q22 := mz_q_push (P' := fun j : Nat => if j = tail then Y else P'' j) (U' := fun j : Nat => if j = tail then y11 else U' j) (V' := fun j : Nat => if j = tail then 7 * V' hd + i + 1 else V' j) zn q ht i0 hi L6 (by rw [eP, eU, hE]; omega) (iP P'' Y) (iP U' y11) (iP V' _) (by show (if tail = tail then Y else P'' tail) = _; rw [if_pos rfl, eP, hY]) (by show (if tail = tail then y11 else U' tail) = _; rw [if_pos rfl, eP, eU, hE, y11E]) (iT V' _)
          generalize hP2 : (fun j : Nat => if j = tail then Y else P'' j) = P2 at Q22
          generalize hU2 : (fun j : Nat => if j = tail then y11 else U' j) = U2 at Q22
          generalize hV2 : (fun j : Nat => if j = tail then 7 * V' hd + i + 1 else V' j) = V2 at Q22
          have P2a : ∀ j : Nat, j < tail → P2 j = P'' j := fun j hj => by rw [← hP2]; exact iP P'' Y j hj
          have U2a : ∀ j : Nat, j < tail → U2 j = U' j := fun j hj => by rw [← hU2]; exact iP U' y11 j hj
          have V2a : ∀ j : Nat, j < tail → V2 j = V' j := fun j hj => by rw [← hV2]; exact iP V' _ j hj
          have P2t : P2 tail = Y := by rw [← hP2]; exact iT P'' Y
          have U2t : U2 tail = y11 := by rw [← hU2]; exact iT U' y11
          have V2t : V2 tail = 7 * V' hd + i + 1 := by rw [← hV2]; exact iT V' _
          have C22 : cz_s L (σ0 56) σ22 (tail + 1) P2 U2 V2 := by
            refine ⟨fun j hj => ?_, fun j j1 hj => ?_, fun s s0 s1 hs => ?_, fun a b ab hb => ?_⟩
            · by_cases z : j = tail
              · rw [z, e71t, e72, if_pos rfl, P2t, U2t]; omega
              · have jt : j < tail := by omega
                rw [e71 j jt, P2a j jt, U2a j jt, e72, if_neg (ne j jt)]; exact c.1 j jt
            · by_cases z : j = tail
              · refine ⟨hd, i, by omega, i0, hi, ?_, ?_, ?_⟩
                · rw [z, e71t, e72, if_pos rfl, e71 hd ht, ey]
                · rw [z, e71t, e73, if_pos rfl]
                · rw [z, V2t, V2a hd ht]
              · have jt : j < tail := by omega
                obtain ⟨j', a, w1, w2, w3, w4, w5, w6⟩ := c.2.1 j j1 jt
                refine ⟨j', a, w1, w2, w3, ?_, ?_, ?_⟩
                · rw [e71 j jt, e72, if_neg (ne j jt), e71 j' (by omega)]; exact w4
                · rw [e71 j jt, e73, if_neg (ne j jt)]; exact w5
                · rw [V2a j jt, V2a j' (by omega)]; exact w6
            · rw [e72] at hs
              by_cases z : s = y15
              · exact ⟨tail, by omega, by rw [e71t]; exact z⟩
              · rw [if_neg z] at hs
                obtain ⟨j, j1, j2⟩ := c.2.2.1 s s0 s1 hs
                exact ⟨j, by omega, by rw [e71 j j1]; exact j2⟩
            · have at' : a < tail := by omega
              rw [e71 a at']
              by_cases z : b = tail
              · rw [z, e71t]; exact ne a at'
              · rw [e71 b (by omega)]; exact c.2.2.2 a b ab (by omega)
          obtain ⟨cl1, cl2, cl3⟩ := cl Y (by omega) m2
          have e23' : y23 = ((tail + 1 : Nat) : Int) := by omega
          rw [f22 58 (by omega), f22 60 (by omega), ← hXi, cl1, e23']
          refine ⟨by omega, by omega, fun _ => ⟨by omega, by omega, fun _ => ⟨mt_I (by omega) (by omega), fun c5 => ?_, fun c5 => ?_⟩⟩⟩
          · refine nxt (tail + 1) σ22 P2 U2 V2 (by omega) (by omega) f22 (by rw [e70]; exact z5) Q22 C22 (fun j j1 hj => ?_) (by rw [P2a hd ht]; exact eP) (by rw [U2a hd ht]; exact eU) (by rw [e71 hd ht]; exact ey)
            by_cases z : j = tail
            · rw [z, U2t, P2t]; exact c5
            · rw [U2a j (by omega), P2a j (by omega)]; exact ns j j1 (by omega)
          · -- found
            have rg : ∀ j : Nat, 1 ≤ j → j < tail + 1 → 1 ≤ σ22 71 j ∧ σ22 71 j < 2838 := fun j j1 hj => by
              have cj := (C22.1 j hj).1
              obtain ⟨b0, b1, b2, b3, m', b4, b5⟩ := Q22.2.2.1 j hj
              have : m' ≠ 0 := fun z => by
                rw [z] at b5
                have v1 := Q22.2.2.2.1 0 j (by omega) hj
                rw [Q22.2.1.2.2] at v1
                have := b5.1; omega
              obtain ⟨m'', rfl⟩ : ∃ m'', m' = m'' + 1 := ⟨m' - 1, by omega⟩
              obtain ⟨v1, p1, l1, a, h1, a0, a1, h2, h3, h4⟩ := b5
              have q := wr _ _ _ _ h1
              have := (zn p1 a q.1 q.2.1 a0 a1).1
              omega
            have p00 : σ22 71 ((0 : Nat) : Int) = 0 := by rw [(C22.1 0 (by omega)).1, Q22.2.1.1, Q22.2.1.2.1]; rfl
            obtain ⟨m, mt, ct⟩ := cz_t_of C22 rg p00 Q22.2.1.2.2 tail tail (Nat.le_refl _) (by omega)
            rw [e71t] at ct
            obtain ⟨-, -, -, -, m', b4, b5⟩ := Q22.2.2.1 tail (by omega)
            have mm := (cz_t_m wv L6 m m' _ _ _ _ ct b5).2
            rw [← mm] at b5
            refine s_traceBack L6 (by omega) ct (fun σ28 f28 z5' z74 => ?_)
            have m1 : 1 ≤ m := by
              cases m with
              | zero => have := ct.1; omega
              | succ m => omega
            have KK := k σ28 m (V2 tail) (mt_f70_t f22 (fun j hj => f28 j (by omega) (by omega))) ⟨m1, ⟨_, _, b5, by rw [U2t, P2t]; exact c5⟩, fun m3 v p l h hx => by
              rcases Int.lt_or_le v (V2 tail) with z | z
              · exfalso
                obtain ⟨s1, s2⟩ := sat m3 v p l h hx
                obtain ⟨j, j1, j2, j3, j4⟩ := mz_cov P0 zn q (by omega) _ v p l h s1 (fun _ => by omega)
                have : j ≠ 0 := fun z => by rw [z, q.2.1.1] at j2; omega
                exact ns j (by omega) j1 (by rw [j2, j3]; exact hx)
              · exact z⟩ (by omega) z5' z74
            have n5 : σ28 70 5 ≠ -1 := by omega
            unfold f_X1_findShortest_u203
            refine ⟨mt_I (by omega) (by omega), fun y e => ?_⟩
            obtain ⟨M', rfl⟩ : ∃ M', M = M' + 1 := ⟨M - 1, by omega⟩
            obtain ⟨N', rfl⟩ : ∃ N', N = N' + 1 := ⟨N - 1, by omega⟩
            have OUT : f_X1_findShortest_u209 Q (f_X1_findShortest_u32 Q (f_X1_findShortest_u215 Q) (N' + 1)) σ28 x ((tail + 1 : Nat) : Int) hd := by
              unfold f_X1_findShortest_u209
              refine ⟨mt_I (by omega) (by omega), fun y e => ?_⟩
              unfold f_X1_findShortest_u32
              unfold f_X1_findShortest_u215
              exact ⟨fun _ => KK, fun _ => ⟨fun _ => KK, fun _ _ => ⟨fun _ => KK, fun z => absurd z n5⟩⟩⟩
            unfold f_X1_findShortest_u72
            exact fun _ => ⟨fun _ => OUT, fun _ _ => ⟨fun _ => OUT, fun z => absurd z n5⟩⟩
      exact I 10 0 tail σ P' U V (by omega) (by omega) (by omega) ht h1 f z5 q c ns rfl rfl e6.symm
  unfold f_X1_findShortest f_X1_findShortest_u0
  intro σ1 s1
  refine s_fill32 (by omega) (fun σ2 f2 x2 => ⟨by omega, by omega, fun σ3 s3 => ⟨by omega, by omega, fun σ4 s4 => ⟨2850, ?_⟩⟩⟩)
  have f4 : mt_f70 σ0 σ4 := fun j hj => by rw [s4, ml_up_k (by omega), s3, ml_up_k (by omega), f2 j (by omega), s1, ml_up_k (by omega)]
  have e72 : ∀ s, σ4 72 s = if s = 0 then 0 else σ2 72 s := fun s => by
    rw [s4, ml_up_k (by omega), s3]
    by_cases z : s = 0
    · rw [if_pos z, z, ml_up_same]
    · rw [if_neg z, ml_up_i z]
  have e70 : σ4 70 5 = -1 := by rw [s4, ml_up_k (by omega), s3, ml_up_k (by omega), f2 70 (by omega), s1, ml_up_same]
  have e71 : σ4 71 ((0 : Nat) : Int) = 0 := by rw [s4]; exact ml_up_same _ _ _ _
  refine H 2850 0 1 σ4 (fun _ => 0) (fun _ => 0) (fun _ => 0) (by omega) (by omega) (by omega) f4 e70 (mz_q_0 (by omega) P0 rfl rfl rfl) ⟨fun j hj => ?_, fun j j1 hj => by omega, fun s s0 s1 hs => ?_, fun a b ab hb => by omega⟩ (fun j j1 hj => by omega)
  · have : j = 0 := by omega
    subst this
    rw [e71, e72, if_pos rfl]
    exact ⟨rfl, by omega⟩
  · by_cases z : s = 0
    · exact ⟨0, by omega, by rw [e71]; exact z⟩
    · rw [e72, if_neg z] at hs
      exact absurd (x2 s s0 s1) hs
theorem c_shortest {Q : Int → ml_St → Prop} {h told ts cap set x y : Int} {tb cl pr sz : Int → Int} {T : Int → Int → Int} {σ0 : ml_St} (i : IC h told ts cap tb cl pr sz T σ0) (k0 : ¬ (mt_ls told (mt_mk h T sz) set ∧ 0 ≤ x ∧ x ≤ 3 ∧ -1 ≤ y) → Q (-1) σ0) (k1 : mt_ls told (mt_mk h T sz) set → 0 ≤ x → x ≤ 3 → -1 ≤ y → ∀ σ L P l S nx mo, IC h told ts cap tb cl pr sz T σ → (∀ j, 215 ≤ j → σ j = σ0 j) → ms_C h told (mt_mk h T sz) set L P l S nx mo → mz_n L P nx (fun p a => mt_both h (mq_w (S p)) (mt_mk h T sz (l a)) 20) → mz_N L nx (fun p a => mt_both h (mq_w (S p)) (mt_mk h T sz (l a)) 20) (fun p => mt_cl h (S p) cl) x → Q (-1) σ) (k2 : mt_ls told (mt_mk h T sz) set → 0 ≤ x → x ≤ 3 → -1 ≤ y → ∀ σ L P l S nx mo (m : Nat) V, IC h told ts cap tb cl pr sz T σ → (∀ j, 215 ≤ j → σ j = σ0 j) → ms_C h told (mt_mk h T sz) set L P l S nx mo → mz_n L P nx (fun p a => mt_both h (mq_w (S p)) (mt_mk h T sz (l a)) 20) → mz_M L nx (fun p a => mt_both h (mq_w (S p)) (mt_mk h T sz (l a)) 20) (fun p => mt_cl h (S p) cl) x m V → Q (mz_an l m V y) σ) : f_X11_shortest σ0 set x y Q := by
  unfold f_X11_shortest f_X11_shortest_u0
  unfold f_X11_shortest_u22
  refine ⟨fun z => k0 (fun y => by omega), fun q1 => ⟨fun z => k0 (fun y => by omega), fun q2 => ⟨fun z => k0 (fun y => by omega), fun q3 => s_openLetters i (fun no _ => ⟨fun z => absurd rfl z, fun _ => k0 (fun y => no y.1)⟩) (fun ls σ iσ g X eset f _ => ⟨fun _ => ?_, fun z => absurd z (by omega)⟩)⟩⟩⟩
  have kk1 := k1 ls (by omega) (by omega) (by omega)
  have kk2 := k2 ls (by omega) (by omega) (by omega)
  clear k0 k1 k2
  have c := iσ.2.2.1
  rw [iσ.1.1]
  obtain ⟨S, Y, C⟩ := ms_C_i g X
  rw [eset] at C
  refine fun _ => s_closeAll iσ.1.2.2.1 iσ.1.2.2.2.1 g Y c.2.2.2.1 c.2.2.1 (fun σ8 f8 c8 x8 => ?_)
  have e55 : σ8 55 = σ 55 := f8 55 (by omega) (by omega)
  have nx8 : mt_nx (σ 55 1) (σ 55 2) σ8 := by unfold mt_nx; rw [e55, f8 58 (by omega) (by omega), f8 59 (by omega) (by omega)]; exact ic_G_nx g
  obtain ⟨g1, g2, g3, g4, g5, g6, g7, g8, g9, g10⟩ := id g
  have zn : mz_n (σ 55 1) (σ 55 2) (fun p a => σ 58 (6 * p + a)) (fun p a => mt_both h (mq_w (S p)) (mt_mk h T sz (σ 56 a)) 20) := fun p a p0 p1 a0 a1 => by
    obtain ⟨z1, z2, z3, z4⟩ := g7 p a p0 p1 a0 a1
    have z5 : σ 59 (6 * p + a) = min 3 (mt_both h (mq_w (S p)) (mt_mk h T sz (σ 56 a)) 20) := C.2.2.2.2.2.2 p a p0 p1 a0 a1
    refine ⟨z1, z2, ?_⟩
    show 0 ≤ mt_both h (mq_w (S p)) (mt_mk h T sz (σ 56 a)) 20
    omega
  have fs : mt_fs σ σ8 := fun j hj => f8 j (by omega) (by omega)
  have i8 : IC h told ts cap tb cl pr sz T σ8 := by
    refine IC_fs fs ?_ iσ
    rcases iσ.2.2.2.2.2.2 with z | z
    · left; rw [e55]; exact z
    · right
      exact ⟨z.1, ic_G_k (fun b hb => by rw [e55]) (by rw [e55]; exact g9) (by rw [e55]; exact g10) (fun j hj => f8 j (by omega) (by omega)) g, ic_X_k (fun b hb => by rw [e55]) (fun j hj => f8 j (by omega) (by omega)) (by unfold ic_W; rw [e55, f8 58 (by omega) (by omega), f8 59 (by omega) (by omega), f8 62 (by omega) (by omega)]; exact X.2.2) X⟩
  refine s_findShortest (e := fun p a => mt_both h (mq_w (S p)) (mt_mk h T sz (σ 56 a)) 20) (cT := fun p => mt_cl h (S p) cl) (X := fun p a => σ 58 (6 * p + a)) g1 g2 g4 g5 nx8 (fun p a => by rw [f8 58 (by omega) (by omega)]) (fun p a p0 p1 a0 a1 => by rw [f8 59 (by omega) (by omega)]; exact C.2.2.2.2.2.2 p a p0 p1 a0 a1) (fun p p0 p1 => ⟨x8 p p0 p1, mt_cl_1 (by have := iσ.1.2.2.1; omega), by have := c8 p p0 p1; rw [x8 p p0 p1] at this; omega⟩) (by omega) (fun σ9 f9 no z5 => s_answer_x (by omega) ?_) (fun σ9 m V f9 mM m2 z5 z74 => s_answer_x (by omega) ?_)
  · have fr : ∀ j, 215 ≤ j → σ9 j = σ0 j := fun j hj => by rw [f9 j (by omega), f8 j (by omega) (by omega), f j (by omega)]
    have g := kk1 σ9 _ _ _ _ _ _ (IC_kp (mt_f70_kp f9) i8) fr C zn no
    rw [z5]
    by_cases w : y = -1
    · rw [if_pos w]; exact fun _ => g
    · rw [if_neg w, if_neg (by omega)]; exact fun _ => g
  · have fr : ∀ j, 215 ≤ j → σ9 j = σ0 j := fun j hj => by rw [f9 j (by omega), f8 j (by omega) (by omega), f j (by omega)]
    have g := kk2 σ9 _ _ _ _ _ _ m V (IC_kp (mt_f70_kp f9) i8) fr C zn mM
    unfold mz_an at g
    rw [z5]
    by_cases w : y = -1
    · rw [if_pos w] at g ⊢; exact fun _ => g
    · rw [if_neg w] at g ⊢
      by_cases v : 0 ≤ y ∧ y < m
      · rw [if_pos v] at g ⊢
        have := z74 y.toNat (by omega)
        rw [show ((y.toNat : Nat) : Int) = y by omega, f8 56 (by omega) (by omega)] at this
        rw [this]; exact fun _ => g
      · rw [if_neg v] at g ⊢; exact fun _ => g
