/-! the model: ends, shortest -/
/-- the model's queue: the ways in it, each come from none or from an earlier one -/
def cm_s (nl c : Int) (σ : ml_St) (tail : Nat) (P U V : Nat → Int) : Prop := σ 215 53 + 1 = tail ∧ (∀ i : Nat, i + 1 < tail → 1 ≤ P (i + 1) ∧ σ 247 i = 4 * (P (i + 1) - 1) + U (i + 1) ∧ σ 246 (σ 247 i) ≠ 0 ∧ ∃ j' : Nat, j' ≤ i ∧ 0 ≤ σ 249 (σ 247 i) ∧ σ 249 (σ 247 i) < nl ∧ V (i + 1) = 7 * V j' + σ 249 (σ 247 i) + 1 ∧ σ 248 (σ 247 i) = if j' = 0 then -1 else σ 247 ((j' : Int) - 1)) ∧ (∀ s, 0 ≤ s → s < 4 * c → σ 246 s ≠ 0 → ∃ i : Nat, i + 1 < tail ∧ s = σ 247 i) ∧ ∀ i j : Nat, i < j → j + 1 < tail → σ 247 i ≠ σ 247 j
theorem cm_room {nl c : Int} {σ : ml_St} {tail : Nat} {P U V : Nat → Int} (s : cm_s nl c σ tail P U V) (r : ∀ i : Nat, i + 1 < tail → 0 ≤ σ 247 i ∧ σ 247 i < 3780) : tail ≤ 3781 := by
  by_cases z : tail ≤ 3781
  · exact z
  · obtain ⟨i, j, hij, hj, e⟩ := mt_ph 3780 (fun i => σ 247 i) (fun i hi => by have := r i (by omega); exact ⟨this.1, by show σ 247 i < _; omega⟩)
    exact absurd e (s.2.2.2 i j hij (by omega))
/-- the way back from a way: m letters, the word v -/
def cm_t (nl : Int) (σ : ml_St) : Nat → Int → Int → Prop
  | 0, s, v => s = -1 ∧ v = 0
  | m + 1, s, v => 0 ≤ s ∧ s < 3800 ∧ 0 ≤ σ 249 s ∧ σ 249 s < nl ∧ ∃ v', v = 7 * v' + σ 249 s + 1 ∧ cm_t nl σ m (σ 248 s) v'
theorem cm_t_m {nl : Int} {σ : ml_St} {nx e : Int → Int → Int} (n : ∀ m v p l, mz_w nl nx e m v p l → 0 ≤ v) (L6 : nl ≤ 6) : ∀ (m m' : Nat) (s v p q : Int), cm_t nl σ m s v → mz_w nl nx e m' v p q → m = m' := by
  have pos : ∀ (m : Nat) (s v : Int), cm_t nl σ m s v → 0 ≤ v := by
    intro m
    induction m with
    | zero => intro s v h; have := h.2; omega
    | succ m ih => intro s v h; obtain ⟨-, -, a0, a1, v', e, h⟩ := h; have := ih _ _ h; omega
  intro m
  induction m with
  | zero =>
    intro m' s v p q h h'
    have h0 := h.2
    cases m' with
    | zero => rfl
    | succ m' =>
      obtain ⟨v1, p1, l1, a, h1, a0, a1, h2, -⟩ := h'
      have := n _ _ _ _ h1
      omega
  | succ m ih =>
    intro m' s v p q h h'
    obtain ⟨s1, s2, a0, a1, v1, h2, h1⟩ := h
    have x1 := pos _ _ _ h1
    cases m' with
    | zero => have := h'.1; omega
    | succ m' =>
      obtain ⟨v2, p2, l2, b, h3, b0, b1, h4, -⟩ := h'
      have x2 := n _ _ _ _ h3
      have : v1 = v2 := by omega
      subst this
      rw [ih m' _ v1 p2 l2 h1 h3]
theorem cm_t_of {nl c : Int} {σ : ml_St} {tail : Nat} {P U V : Nat → Int} (s : cm_s nl c σ tail P U V) (r : ∀ i : Nat, i + 1 < tail → 0 ≤ σ 247 i ∧ σ 247 i < 3780) (v0 : V 0 = 0) : ∀ (b i : Nat), i ≤ b → i + 1 < tail → ∃ m : Nat, m ≤ i + 1 ∧ cm_t nl σ m (σ 247 i) (V (i + 1)) := by
  intro b
  induction b with
  | zero =>
    intro i hb hi
    obtain ⟨-, -, -, j', y1, y2, y3, y4, y5⟩ := s.2.1 i hi
    obtain ⟨r1, r2⟩ := r i hi
    have : j' = 0 := by omega
    subst this
    rw [if_pos rfl] at y5
    exact ⟨1, by omega, r1, by omega, y2, y3, V 0, y4, y5, v0⟩
  | succ b ih =>
    intro i hb hi
    obtain ⟨-, -, -, j', y1, y2, y3, y4, y5⟩ := s.2.1 i hi
    obtain ⟨r1, r2⟩ := r i hi
    cases j' with
    | zero =>
      rw [if_pos rfl] at y5
      exact ⟨1, by omega, r1, by omega, y2, y3, V 0, y4, y5, v0⟩
    | succ j =>
      rw [if_neg (by omega), show ((j + 1 : Nat) : Int) - 1 = (j : Int) by omega] at y5
      obtain ⟨m, m1, m2⟩ := ih j (by omega) (by omega)
      exact ⟨m + 1, by omega, r1, by omega, y2, y3, V (j + 1), y4, by rw [y5]; exact m2⟩
theorem s_comes {K : ml_St → Prop} {c nl x fr i : Int} {X e : Int → Int → Int} {tail hd : Nat} {P U V : Nat → Int} {σ : ml_St} (c0 : 0 ≤ c) (c1 : c ≤ 945) (L6 : nl ≤ 6) (zn : mz_n nl (c + 1) X e) (q : mz_q 4 nl (c + 1) X e tail hd i P U V) (s : cm_s nl c σ tail P U V) (ht : hd < tail) (i0 : 0 ≤ i) (i1 : i < nl) (hb : U hd + e (P hd) i < 4) (hx : x = 4 * (X (P hd) i - 1) + (U hd + e (P hd) i)) (hf : fr = if hd = 0 then -1 else σ 247 ((hd : Int) - 1)) (k : ∀ (tail' : Nat) P' U' V' σ', (∀ j, j ≠ 215 → j ≤ 245 → σ' j = σ j) → (∀ b, b ≠ 53 → σ' 215 b = σ 215 b) → tail ≤ tail' → (∀ j : Nat, j < tail → P' j = P j ∧ U' j = U j ∧ V' j = V j) → (∀ i : Nat, i + 1 < tail → σ' 247 i = σ 247 i) → mz_q 4 nl (c + 1) X e tail' hd (i + 1) P' U' V' → cm_s nl c σ' tail' P' U' V' → K σ') : f_X12_comes σ x fr i K := by
  have rg : ∀ {σ : ml_St} {tail : Nat} {P U V : Nat → Int} {hd : Nat} {i : Int}, mz_q 4 nl (c + 1) X e tail hd i P U V → cm_s nl c σ tail P U V → ∀ i : Nat, i + 1 < tail → 0 ≤ σ 247 i ∧ σ 247 i < 3780 := fun q s i hi => by
    obtain ⟨b0, b1, b2, b3, -⟩ := q.2.2.1 (i + 1) hi
    obtain ⟨z1, z2, -⟩ := s.2.1 i hi
    omega
  have room := cm_room s (rg q s)
  obtain ⟨a0, a1, u0, u1, -⟩ := q.2.2.1 hd ht
  obtain ⟨n1, n2, n3⟩ := zn (P hd) i a0 a1 i0 i1
  unfold f_X12_comes f_X12_comes_u0
  refine ⟨by omega, by omega, fun _ => ⟨fun z => ⟨by omega, by omega, fun σ3 s3 => ⟨by omega, by omega, fun σ4 s4 => ⟨by omega, by omega, fun σ5 s5 => ?_⟩⟩⟩, fun z => ?_⟩⟩
  rotate_left
  · refine k tail P U V σ (fun _ _ _ => rfl) (fun _ _ => rfl) (Nat.le_refl _) (fun _ _ => ⟨rfl, rfl, rfl⟩) (fun _ _ => rfl) (mz_q_skip q ht (fun _ => ?_)) s
    obtain ⟨j, j1, j2⟩ := s.2.2.1 x (by omega) (by omega) z
    obtain ⟨z1, z2, -⟩ := s.2.1 j j1
    obtain ⟨b0, b1, b2, b3, -⟩ := q.2.2.1 (j + 1) j1
    exact ⟨j + 1, j1, by omega, by omega⟩
  have t53 := s.1
  have e53 : σ5 215 53 = (tail : Int) - 1 := by rw [s5, ml_up_k (by omega), s4, ml_up_k (by omega), s3, ml_up_k (by omega)]; omega
  rw [e53]
  obtain ⟨t', rfl⟩ : ∃ t', tail = t' + 1 := ⟨tail - 1, by have := q.1; omega⟩
  rw [show ((t' + 1 : Nat) : Int) - 1 = (t' : Int) by omega]
  rw [show ((t' + 1 : Nat) : Int) - 1 = (t' : Int) by omega] at e53
  refine fun _ => ⟨by omega, by omega, fun σ7 s7 => ?_⟩
  have e7 : σ7 215 53 = t' := by rw [s7, ml_up_k (by omega), e53]
  rw [e7]
  refine fun _ => ⟨mt_I (by omega) (by omega), fun σ10 s10 => ?_⟩
  have nx : ∀ i : Nat, i + 1 < t' + 1 → σ 247 i ≠ x := fun i hi e => (s.2.1 i hi).2.2.1 (by rw [e]; exact z)
  have a246 : ∀ p, σ10 246 p = if p = x then 1 else σ 246 p := fun p => by
    rw [s10, ml_up_k (by omega), s7, ml_up_k (by omega), s5, ml_up_k (by omega), s4, ml_up_k (by omega), s3]
    by_cases w : p = x
    · rw [if_pos w, w, ml_up_same]
    · rw [if_neg w, ml_up_i w]
  have a248 : ∀ p, σ10 248 p = if p = x then fr else σ 248 p := fun p => by
    rw [s10, ml_up_k (by omega), s7, ml_up_k (by omega), s5, ml_up_k (by omega), s4]
    by_cases w : p = x
    · rw [if_pos w, w, ml_up_same]
    · rw [if_neg w, ml_up_i w, s3, ml_up_k (by omega)]
  have a249 : ∀ p, σ10 249 p = if p = x then i else σ 249 p := fun p => by
    rw [s10, ml_up_k (by omega), s7, ml_up_k (by omega), s5]
    by_cases w : p = x
    · rw [if_pos w, w, ml_up_same]
    · rw [if_neg w, ml_up_i w, s4, ml_up_k (by omega), s3, ml_up_k (by omega)]
  have a247 : ∀ p, σ10 247 p = if p = (t' : Int) then x else σ 247 p := fun p => by
    rw [s10, ml_up_k (by omega), s7]
    by_cases w : p = (t' : Int)
    · rw [if_pos w, w, ml_up_same]
    · rw [if_neg w, ml_up_i w, s5, ml_up_k (by omega), s4, ml_up_k (by omega), s3, ml_up_k (by omega)]
  have b247 : ∀ i : Nat, i < t' → σ10 247 i = σ 247 i := fun i hi => by rw [a247, if_neg (by omega)]
  have bq : σ10 247 (t' : Int) = x := by rw [a247, if_pos rfl]
  have iP : ∀ (g : Nat → Int) (w : Int) (j : Nat), j < t' + 1 → (fun j : Nat => if j = t' + 1 then w else g j) j = g j := fun g w j hj => if_neg (by omega)
  have iT : ∀ (g : Nat → Int) (w : Int), (fun j : Nat => if j = t' + 1 then w else g j) (t' + 1) = w := fun g w => if_pos rfl
  have Q2 := mz_q_push (P' := fun j : Nat => if j = t' + 1 then X (P hd) i else P j) (U' := fun j : Nat => if j = t' + 1 then U hd + e (P hd) i else U j) (V' := fun j : Nat => if j = t' + 1 then 7 * V hd + i + 1 else V j) zn q ht i0 i1 L6 hb (iP P _) (iP U _) (iP V _) (iT P _) (iT U _) (iT V _)
  generalize hP2 : (fun j : Nat => if j = t' + 1 then X (P hd) i else P j) = P2 at Q2
  generalize hU2 : (fun j : Nat => if j = t' + 1 then U hd + e (P hd) i else U j) = U2 at Q2
  generalize hV2 : (fun j : Nat => if j = t' + 1 then 7 * V hd + i + 1 else V j) = V2 at Q2
  have P2a : ∀ j : Nat, j < t' + 1 → P2 j = P j := fun j hj => by rw [← hP2]; exact iP P _ j hj
  have U2a : ∀ j : Nat, j < t' + 1 → U2 j = U j := fun j hj => by rw [← hU2]; exact iP U _ j hj
  have V2a : ∀ j : Nat, j < t' + 1 → V2 j = V j := fun j hj => by rw [← hV2]; exact iP V _ j hj
  have P2t : P2 (t' + 1) = X (P hd) i := by rw [← hP2]; exact iT P _
  have U2t : U2 (t' + 1) = U hd + e (P hd) i := by rw [← hU2]; exact iT U _
  have V2t : V2 (t' + 1) = 7 * V hd + i + 1 := by rw [← hV2]; exact iT V _
  refine k (t' + 1 + 1) P2 U2 V2 σ10 (fun j h1 h2 => by rw [s10, ml_up_k h1, s7, ml_up_k (by omega), s5, ml_up_k (by omega), s4, ml_up_k (by omega), s3, ml_up_k (by omega)]) (fun b hb => by rw [s10, ml_up_i hb, s7, ml_up_k (by omega), s5, ml_up_k (by omega), s4, ml_up_k (by omega), s3, ml_up_k (by omega)]) (by omega) (fun j hj => ⟨P2a j hj, U2a j hj, V2a j hj⟩) (fun i hi => b247 i (by omega)) Q2 ⟨by rw [s10, ml_up_same]; omega, fun j hj => ?_, fun p p0 p1 hp => ?_, fun a b ab hb => ?_⟩
  · by_cases w : j = t'
    · subst w
      rw [bq, a246, a248, a249, if_pos rfl, if_pos rfl, if_pos rfl, P2t, U2t, V2t]
      refine ⟨n1, hx, by omega, hd, by omega, i0, i1, by rw [V2a hd ht], ?_⟩
      rw [hf]
      by_cases g : hd = 0
      · rw [if_pos g, if_pos g]
      · rw [if_neg g, if_neg g]
        have := b247 (hd - 1) (by omega)
        rw [show (((hd - 1 : Nat)) : Int) = (hd : Int) - 1 by omega] at this
        exact this.symm
    · have jt : j < t' := by omega
      obtain ⟨y1, y2, y3, j', y4, y5, y6, y7, y8⟩ := s.2.1 j (by omega)
      have nj := nx j (by omega)
      rw [b247 j jt, a246, a248, a249, if_neg nj, if_neg nj, if_neg nj, P2a (j + 1) (by omega), U2a (j + 1) (by omega), V2a (j + 1) (by omega)]
      refine ⟨y1, y2, y3, j', y4, y5, y6, by rw [V2a j' (by omega)]; exact y7, ?_⟩
      rw [y8]
      by_cases g : j' = 0
      · rw [if_pos g, if_pos g]
      · rw [if_neg g, if_neg g]
        have := b247 (j' - 1) (by omega)
        rw [show (((j' - 1 : Nat)) : Int) = (j' : Int) - 1 by omega] at this
        exact this.symm
  · rw [a246] at hp
    by_cases w : p = x
    · exact ⟨t', by omega, by rw [bq]; exact w⟩
    · rw [if_neg w] at hp
      obtain ⟨j, j1, j2⟩ := s.2.2.1 p p0 p1 hp
      exact ⟨j, by omega, by rw [b247 j (by omega)]; exact j2⟩
  · by_cases w : b = t'
    · subst w; rw [bq, b247 a ab]; exact nx a (by omega)
    · rw [b247 a (by omega), b247 b (by omega)]; exact s.2.2.2 a b ab (by omega)
theorem s_ends {K : Int → ml_St → Prop} {h told ts cap nl x : Int} {tb cl pr sz : Int → Int} {T : Int → Int → Int} {τ0 σ0 : ml_St} {F : Nat → Int → Int} {c : Nat} {X e : Int → Int → Int} {cT : Int → Int} (J0 : mq_J h told ts cap tb cl pr sz T τ0 nl F c σ0) (zn : mz_n nl ((c : Int) + 1) X e) (hX0 : ∀ a, X 0 a = σ0 242 a + 1) (hXs : ∀ s a, 0 ≤ s → X (s + 1) a = σ0 240 (6 * s + a) + 1) (he0 : ∀ a, 0 ≤ a → a < nl → σ0 229 (σ0 237 a) = e 0 a) (hes : ∀ s a, 0 ≤ s → s < (c : Int) → 0 ≤ a → a < nl → σ0 241 (6 * s + a) = min (e (s + 1) a) 4) (hcl : ∀ s, 0 ≤ s → s < (c : Int) → σ0 243 s = cT (s + 1) ∧ 1 ≤ cT (s + 1)) (x3 : x ≤ 3) (k0 : ∀ σ, mq_J h told ts cap tb cl pr sz T τ0 nl F c σ → mz_N nl X e cT x → K (-1) σ) (k1 : ∀ σ s (m : Nat) V, mq_J h told ts cap tb cl pr sz T τ0 nl F c σ → σ 237 = σ0 237 → mz_M nl X e cT x m V → 0 ≤ s → m ≤ 3790 → cm_t nl σ m s V → K s σ) : f_X12_ends σ0 x K := by
  have JK : ∀ (σ σ' : ml_St), (∀ j, j ≠ 215 → j ≤ 245 → σ' j = σ j) → (∀ b, b ≠ 53 → σ' 215 b = σ 215 b) → mq_J h told ts cap tb cl pr sz T τ0 nl F c σ → mq_J h told ts cap tb cl pr sz T τ0 nl F c σ' := fun σ σ' f b J => mq_J_k (fun j h1 h2 => f j h1 (by omega)) (fun b' hb => b b' (by omega)) J
  have b2 := (mq_J_b J0).2.1
  have nl6 := (mq_J_b J0).2.2.2.2.1
  have c0 : 0 ≤ (c : Int) := by omega
  have P0 : 1 ≤ (c : Int) + 1 := by omega
  have wr := mz_w_r P0 zn
  have wv : ∀ m v p l, mz_w nl X e m v p l → 0 ≤ v := fun m v p l h => (wr m v p l h).2.2.2
  have sat : ∀ (m : Nat) (v p l : Int), mz_w nl X e (m + 1) v p l → l + cT p = x → l < 4 ∧ 1 ≤ p := fun m v p l h hx => by
    obtain ⟨r1, r2, r3, r4⟩ := wr _ _ _ _ h
    obtain ⟨v', p', l', a, h1, a0, a1, h2, h3, h4⟩ := h
    have q := wr _ _ _ _ h1
    have := (zn p' a q.1 q.2.1 a0 a1).1
    have := hcl (p - 1) (by omega) (by omega)
    rw [show p - 1 + 1 = p by omega] at this
    omega
  have rg : ∀ {σ : ml_St} {tail : Nat} {P U V : Nat → Int} {hd : Nat} {i : Int}, mz_q 4 nl ((c : Int) + 1) X e tail hd i P U V → cm_s nl c σ tail P U V → ∀ i : Nat, i + 1 < tail → 0 ≤ σ 247 i ∧ σ 247 i < 3780 := fun q s i hi => by
    obtain ⟨b0, b1, b2, b3, -⟩ := q.2.2.1 (i + 1) hi
    obtain ⟨z1, z2, -⟩ := s.2.1 i hi
    omega
  -- the queue is gone through
  have W : ∀ (N : Nat) (p tail : Nat) (σ : ml_St) (P U V : Nat → Int), p + 1 ≤ tail → 3782 - (p : Int) < N → mq_J h told ts cap tb cl pr sz T τ0 nl F c σ → (∀ j, j ≠ 215 → j ≤ 245 → σ j = σ0 j) → mz_q 4 nl ((c : Int) + 1) X e tail (p + 1) 0 P U V → cm_s nl c σ tail P U V → (∀ j : Nat, 1 ≤ j → j < p + 1 → U j + cT (P j) ≠ x) → f_X12_ends_u93 K (f_X12_ends_u124 K) (f_X12_ends_u202 K) N σ x p := by
    intro N
    induction N with
    | zero => intro p tail σ P U V pq hN J f q s; have := cm_room s (rg q s); omega
    | succ N ih =>
      intro p tail σ P U V pq hN J f q s ns
      have t0 := cm_room s (rg q s)
      have s1 := s.1
      obtain ⟨b1, b2, b3, b4, b5, b6, b7⟩ := mq_J_b J
      unfold f_X12_ends_u93
      refine fun _ => ⟨fun q0 => ?_, fun q1 => ⟨by omega, by omega, fun _ y4 e4 => ?_⟩⟩
      · unfold f_X12_ends_u202
        refine k0 σ J (fun m v p' l h hx => ?_)
        obtain ⟨z1, z2⟩ := sat m v p' l h hx
        obtain ⟨j, j1, j2, j3, j4⟩ := mz_cov P0 zn q (by omega) _ v p' l h z1 (fun z => by omega)
        have : j ≠ 0 := fun z => by rw [z, q.2.1.1] at j2; omega
        exact ns j (by omega) (by omega) (by rw [j2, j3]; exact hx)
      have pt : p + 1 < tail := by omega
      obtain ⟨w1, w2, w3, -⟩ := s.2.1 p pt
      obtain ⟨a0, a1, u0, u1, -⟩ := q.2.2.1 (p + 1) pt
      rw [w2] at e4
      generalize hp1 : P (p + 1) = p1 at *
      generalize hu1 : U (p + 1) = u at *
      have e1 : Int.tmod y4 4 = u := by rw [Int.tmod_eq_emod_of_nonneg (by omega)]; omega
      have e2 : Int.tdiv y4 4 = p1 - 1 := by rw [Int.tdiv_eq_ediv_of_nonneg (by omega)]; omega
      obtain ⟨g1, g2⟩ := hcl (p1 - 1) (by omega) (by omega)
      rw [show p1 - 1 + 1 = p1 by omega] at g1 g2
      rw [e1, e2, f 243 (by omega) (by omega), g1]
      have c6 := b6 (p1 - 1) (by omega) (by omega)
      rw [f 243 (by omega) (by omega), g1] at c6
      refine ⟨by omega, mt_I (by omega) (by omega), by omega, mt_I (by omega) (by omega), by omega, by omega, fun _ => ⟨mt_I (by omega) (by omega), fun nsx => ⟨7, ?_⟩, fun sx => ?_⟩⟩
      · have I : ∀ (M : Nat) (l : Int) (tail : Nat) (σ : ml_St) (P U V : Nat → Int), p + 1 < tail → 0 ≤ l → l ≤ nl → nl - l < M → mq_J h told ts cap tb cl pr sz T τ0 nl F c σ → (∀ j, j ≠ 215 → j ≤ 245 → σ j = σ0 j) → mz_q 4 nl ((c : Int) + 1) X e tail (p + 1) l P U V → cm_s nl c σ tail P U V → (∀ j : Nat, 1 ≤ j → j < p + 1 + 1 → U j + cT (P j) ≠ x) → P (p + 1) = p1 → U (p + 1) = u → σ 247 p = y4 → f_X12_ends_u129 K (f_X12_ends_u196 K (f_X12_ends_u93 K (f_X12_ends_u124 K) (f_X12_ends_u202 K) N)) M σ x p y4 l := by
          intro M
          induction M with
          | zero => intro l tail σ P U V pq l0 l1 hM; omega
          | succ M ihl =>
            intro l tail σ P U V pt l0 l1 hM J f q s ns hp1 hu1 ey
            obtain ⟨b1, b2, b3, b4, b5, b6, b7⟩ := mq_J_b J
            unfold f_X12_ends_u129
            rw [b3, e1, e2]
            have NX : ∀ (tail : Nat) σ (P U V : Nat → Int), l < nl → p + 1 < tail → mq_J h told ts cap tb cl pr sz T τ0 nl F c σ → (∀ j, j ≠ 215 → j ≤ 245 → σ j = σ0 j) → mz_q 4 nl ((c : Int) + 1) X e tail (p + 1) (l + 1) P U V → cm_s nl c σ tail P U V → (∀ j : Nat, 1 ≤ j → j < p + 1 + 1 → U j + cT (P j) ≠ x) → P (p + 1) = p1 → U (p + 1) = u → σ 247 p = y4 → f_X12_ends_u190 K (f_X12_ends_u129 K (f_X12_ends_u196 K (f_X12_ends_u93 K (f_X12_ends_u124 K) (f_X12_ends_u202 K) N)) M) σ x p y4 l := fun tail σ P U V ll pt J f q s ns hp1 hu1 ey => by
              unfold f_X12_ends_u190
              refine ⟨mt_I (by omega) (by omega), fun y e => ?_⟩
              subst e
              exact ihl (l + 1) tail σ P U V pt (by omega) (by omega) (by omega) J f q s ns hp1 hu1 ey
            refine fun _ => ⟨fun q2 => ?_, fun q3 => ⟨by omega, mt_I (by omega) (by omega), by omega, mt_I (by omega) (by omega), mt_I (by omega) (by omega), mt_I (by omega) (by omega), by omega, by omega, ?_⟩⟩
            · unfold f_X12_ends_u196
              refine ⟨mt_I (by omega) (by omega), fun y e => ?_⟩
              have e : y = ((p + 1 : Nat) : Int) := by omega
              have el : l = nl := by omega
              rw [el] at q
              rw [e]
              exact ih (p + 1) tail σ P U V (by omega) (by omega) J f (mz_q_next nl6 q pt) s ns
            have ll : l < nl := by omega
            have h241 := hes (p1 - 1) l (by omega) (by omega) l0 ll
            have h240 := hXs (p1 - 1) l (by omega)
            rw [show p1 - 1 + 1 = p1 by omega] at h241 h240
            obtain ⟨n1, n2, n3⟩ := zn p1 l (by omega) (by omega) l0 ll
            rw [f 241 (by omega) (by omega), f 240 (by omega) (by omega), h241]
            generalize hE : e p1 l = E at *
            generalize hY : X p1 l = Y at *
            refine fun _ => ⟨mt_I (by omega) (by omega), fun y9 e9 => ⟨fun q4 => NX tail σ P U V ll pt J f (mz_q_skip q pt (fun hh => ?_)) s ns hp1 hu1 ey, fun q4 => ⟨by omega, mt_I (by omega) (by omega), mt_I (by omega) (by omega), mt_I (by omega) (by omega), by omega, by omega, fun _ => ⟨mt_I (by omega) (by omega), mt_I (by omega) (by omega), ?_⟩⟩⟩⟩
            · rw [hp1, hu1, hE] at hh; omega
            · refine s_comes (c := c) (nl := nl) (hd := p + 1) c0 (by omega) nl6 zn q s pt l0 ll (by rw [hp1, hu1, hE]; omega) (by rw [hp1, hu1, hE, hY]; omega) (by rw [if_neg (by omega), show ((p + 1 : Nat) : Int) - 1 = (p : Int) by omega]; exact ey.symm) (fun tail' P' U' V' σ' f' fb tt pp fq q' s' => NX tail' σ' P' U' V' ll (by omega) (JK σ σ' f' fb J) (fun j h1 h2 => by rw [f' j h1 h2, f j h1 h2]) q' s' (fun j j1 j2 => ?_) (by rw [(pp (p + 1) pt).1, hp1]) (by rw [(pp (p + 1) pt).2.1, hu1]) (by rw [fq p pt]; exact ey))
              rw [(pp j (by omega)).1, (pp j (by omega)).2.1]
              exact ns j j1 j2
        refine I 7 0 tail σ P U V pt (by omega) b4 (by omega) J f q s (fun j j1 j2 => ?_) hp1 hu1 (by rw [e4]; exact w2)
        by_cases z : j = p + 1
        · rw [z, hp1, hu1]; exact nsx
        · exact ns j j1 (by omega)
      · unfold f_X12_ends_u124
        obtain ⟨m, m1, m2⟩ := cm_t_of s (rg q s) q.2.1.2.2 p p (Nat.le_refl p) pt
        obtain ⟨-, -, -, -, m', m3, m4⟩ := q.2.2.1 (p + 1) pt
        have mm := cm_t_m wv nl6 m m' _ _ _ _ m2 m4
        rw [← mm] at m4
        have e4' : σ 247 p = y4 := by rw [e4]; exact w2
        rw [e4'] at m2
        refine k1 σ y4 m (V (p + 1)) J (by rw [f 237 (by omega) (by omega)]) ⟨?_, ⟨_, _, m4, by rw [hp1, hu1]; exact sx⟩, fun m9 v p' l h hx => ?_⟩ (by omega) (by omega) m2
        · cases m with
          | zero => have := m2.1; omega
          | succ m => omega
        · rcases Int.lt_or_le v (V (p + 1)) with z | z
          · exfalso
            obtain ⟨z1, z2⟩ := sat m9 v p' l h hx
            have v0 := wv _ _ _ _ m4
            obtain ⟨j, j1, j2, j3, j4⟩ := mz_cov P0 zn q (by omega) _ v p' l h z1 (fun _ => by omega)
            have j0 : j ≠ 0 := fun z => by rw [z, q.2.1.1] at j2; omega
            have jp : j < p + 1 := by
              by_cases w : j < p + 1
              · exact w
              · by_cases w2 : j = p + 1
                · rw [w2] at j4; omega
                · have := q.2.2.2.1 (p + 1) j (by omega) j1; omega
            exact ns j (by omega) jp (by rw [j2, j3]; exact hx)
          · exact z
  -- the letters come first
  have A2 : ∀ (N : Nat) (l : Int) (tail : Nat) (σ : ml_St) (P U V : Nat → Int), 0 ≤ l → l ≤ nl → nl - l < N → mq_J h told ts cap tb cl pr sz T τ0 nl F c σ → (∀ j, j ≠ 215 → j ≤ 245 → σ j = σ0 j) → mz_q 4 nl ((c : Int) + 1) X e tail 0 l P U V → cm_s nl c σ tail P U V → f_X12_ends_u32 K (f_X12_ends_u91 K) N σ x l := by
    intro N
    induction N with
    | zero => intro l tail σ P U V l0 l1 hN; omega
    | succ N ih =>
      intro l tail σ P U V l0 l1 hN J f q s
      obtain ⟨b1, b2, b3, b4, b5, b6, b7⟩ := mq_J_b J
      have q1 := q.1
      have NX : ∀ (tail : Nat) σ (P U V : Nat → Int), l < nl → mq_J h told ts cap tb cl pr sz T τ0 nl F c σ → (∀ j, j ≠ 215 → j ≤ 245 → σ j = σ0 j) → mz_q 4 nl ((c : Int) + 1) X e tail 0 (l + 1) P U V → cm_s nl c σ tail P U V → f_X12_ends_u85 K (f_X12_ends_u32 K (f_X12_ends_u91 K) N) σ x l := fun tail σ P U V ll J f q s => by
        unfold f_X12_ends_u85
        refine ⟨mt_I (by omega) (by omega), fun y e => ?_⟩
        subst e
        exact ih (l + 1) tail σ P U V (by omega) (by omega) (by omega) J f q s
      unfold f_X12_ends_u32
      rw [b3]
      refine fun _ => ⟨fun q9 => ?_, fun q9 => ⟨l0, by omega, fun _ => ?_⟩⟩
      · unfold f_X12_ends_u91
        have el : l = nl := by omega
        rw [el] at q
        have w := W 3784 0 tail σ P U V (by omega) (by omega) J f (mz_q_next nl6 q (by omega)) s (fun j j1 j2 => by omega)
        exact ⟨3784, w⟩
      have ll : l < nl := by omega
      obtain ⟨w1, w2, w3, w4, w5⟩ := b7 l l0 ll
      obtain ⟨n1, n2, n3⟩ := zn 0 l (by omega) (by omega) l0 ll
      have h229 := he0 l l0 ll
      have h242 := hX0 l
      rw [f 229 (by omega) (by omega), f 237 (by omega) (by omega), h229]
      rw [f 237 (by omega) (by omega)] at w1 w2
      have e00 : P 0 = 0 := q.2.1.1
      have u00 : U 0 = 0 := q.2.1.2.1
      refine ⟨w1, by omega, fun _ => ⟨fun g => NX tail σ P U V ll J f (mz_q_skip q (by omega) (fun hh => ?_)) s, fun g => ?_⟩⟩
      · rw [e00, u00] at hh; omega
      rw [mb_l2i2 (by omega) (by omega), f 242 (by omega) (by omega)]
      rw [f 242 (by omega) (by omega)] at w4 w5
      refine ⟨l0, by omega, fun _ => ⟨mt_I (by omega) (by omega), l0, by omega, fun _ => ⟨w1, by omega, fun _ => ⟨mt_I (by omega) (by omega), ?_⟩⟩⟩⟩
      exact s_comes (c := c) (nl := nl) (hd := 0) c0 (by omega) nl6 zn q s (by omega) l0 ll (by rw [e00, u00]; omega) (by rw [e00, u00]; omega) (if_pos rfl).symm (fun tail' P' U' V' σ' f' fb tt pp fq q' s' => NX tail' σ' P' U' V' ll (JK σ σ' f' fb J) (fun j h1 h2 => by rw [f' j h1 h2, f j h1 h2]) q' s')
  have A1 : ∀ (N : Nat) (j : Int) (σ : ml_St), 0 ≤ j → j ≤ 4 * c → 4 * c - j < N → mq_J h told ts cap tb cl pr sz T τ0 nl F c σ → (∀ j, j ≠ 215 → j ≤ 245 → σ j = σ0 j) → (∀ s, 0 ≤ s → s < j → σ 246 s = 0) → f_X12_ends_u2 K (f_X12_ends_u25 K) N σ x j := by
    intro N
    induction N with
    | zero => intro j σ j0 j1 hN; omega
    | succ N ih =>
      intro j σ j0 j1 hN J f hz
      obtain ⟨b1, b2, b3, b4, b5, b6, b7⟩ := mq_J_b J
      unfold f_X12_ends_u2
      rw [b1]
      refine fun _ => ⟨mt_I (by omega) (by omega), fun q => ?_, fun q => ⟨by omega, by omega, fun σ4 s4 => ⟨mt_I (by omega) (by omega), fun y e => ?_⟩⟩⟩
      · unfold f_X12_ends_u25
        intro σ1 s1
        refine ⟨7, A2 7 0 1 σ1 (fun _ => 0) (fun _ => 0) (fun _ => 0) (by omega) b4 (by omega) (JK σ σ1 (fun j h1 h2 => by rw [s1, ml_up_k h1]) (fun b hb => by rw [s1, ml_up_i hb]) J) (fun j h1 h2 => by rw [s1, ml_up_k h1, f j h1 h2]) (mz_q_0 (by omega) P0 rfl rfl rfl) ⟨by rw [s1, ml_up_same]; rfl, fun i hi => by omega, fun s s0 s1' hs => ?_, fun i j hi hj => by omega⟩⟩
        rw [s1, ml_up_k (by omega)] at hs
        exact absurd (hz s s0 (by omega)) hs
      · subst e
        refine ih (j + 1) σ4 (by omega) (by omega) (by omega) (JK σ σ4 (fun j h1 h2 => by rw [s4, ml_up_k (by omega)]) (fun b hb => by rw [s4, ml_up_k (by omega)]) J) (fun j h1 h2 => by rw [s4, ml_up_k (by omega), f j h1 h2]) (fun s s0 s1 => ?_)
        rw [s4]
        by_cases z : s = j
        · rw [z, ml_up_same]
        · rw [ml_up_i z]; exact hz s s0 (by omega)
  unfold f_X12_ends f_X12_ends_u0
  exact ⟨3782, A1 3782 0 σ0 (by omega) (by omega) (by omega) J0 (fun _ _ _ => rfl) (fun s a b => by omega)⟩
theorem m_shortest {Q : Int → ml_St → Prop} {h told ts cap set n x : Int} {tb cl pr sz : Int → Int} {T : Int → Int → Int} {τ : ml_St} (i : IM h told ts cap tb cl pr sz T τ) (k0 : ¬ (mt_ls told (mt_mk h T sz) set ∧ 0 ≤ n ∧ n ≤ 3 ∧ -1 ≤ x) → ∀ σ, IM h told ts cap tb cl pr sz T σ → (∀ j, j < 215 → σ j = τ j) → Q (-1) σ) (k1 : mt_ls told (mt_mk h T sz) set → 0 ≤ n → n ≤ 3 → -1 ≤ x → ∀ σ L l F (c : Nat) nx, IM h told ts cap tb cl pr sz T σ → (∀ j, j < 215 → σ j = τ j) → ms_M h told (mt_mk h T sz) set L l F c nx → mz_N L nx (fun p a => mt_both h (mq_w (ms_S h F p)) (mt_mk h T sz (l a)) 20) (fun p => mt_cl h (ms_S h F p) cl) n → Q (-1) σ) (k2 : mt_ls told (mt_mk h T sz) set → 0 ≤ n → n ≤ 3 → -1 ≤ x → ∀ σ L l F (c : Nat) nx (m : Nat) V, IM h told ts cap tb cl pr sz T σ → (∀ j, j < 215 → σ j = τ j) → ms_M h told (mt_mk h T sz) set L l F c nx → mz_M L nx (fun p a => mt_both h (mq_w (ms_S h F p)) (mt_mk h T sz (l a)) 20) (fun p => mt_cl h (ms_S h F p) cl) n m V → Q (mz_an l m V x) σ) : f_X12_shortest τ set n x Q := by
  have h2 := i.1.2.2.1
  have h5 := i.1.2.2.2.1
  unfold f_X12_shortest f_X12_shortest_u0
  unfold f_X12_shortest_u25
  refine s_isLetters i (fun no σ i' f _ => ⟨fun _ => k0 (fun y => no y.1) σ i' f, fun z => absurd rfl z⟩) (fun ls σ nl L hl _ => ⟨fun z => absurd z (by omega), fun _ => s_lies (fun n0 n1 _ => ⟨fun z => absurd z (by omega), fun _ => ⟨fun x0 => s_joinsAll L (fun σ0 F c J0 hB hO h7 => ?_), fun z => k0 (fun y => z y.2.2.2) σ L.1 L.2.1⟩⟩) (fun z _ => ⟨fun _ => k0 (fun y => z ⟨y.2.1, y.2.2.1⟩) σ L.1 L.2.1, fun z => absurd rfl z⟩)⟩)
  have kk1 := k1 ls n0 n1 x0
  have kk2 := k2 ls n0 n1 x0
  clear k0 k1 k2
  have nl6 : 0 ≤ nl ∧ nl ≤ 6 := ⟨(mq_J_b J0).2.2.2.1, (mq_J_b J0).2.2.2.2.1⟩
  have hnx : ∀ p a, 0 ≤ p → p < (c : Int) + 1 → 0 ≤ a → a < nl → 1 ≤ ms_n σ0 p a ∧ ms_n σ0 p a < (c : Int) + 1 := fun p a p0 p1 a0 a1 => by
    obtain ⟨y1, y2, -⟩ := hB.2.2.2.2.1 p a p0 a0 a1 (Or.inl p1)
    exact ⟨y1, y2⟩
  generalize he : (fun p a => mt_both h (mq_w (ms_S h F p)) (mt_mk h T sz (σ 237 a)) 20) = e
  have heq : ∀ p a, e p a = mt_both h (mq_w (ms_S h F p)) (mt_mk h T sz (σ 237 a)) 20 := fun p a => by rw [← he]
  have hex : ∀ s a, 0 ≤ s → s < (c : Int) → 0 ≤ a → a < nl → σ0 241 (6 * s + a) = min (e (s + 1) a) 4 ∧ 0 ≤ e (s + 1) a := fun s a s0 s1 a0 a1 => by
    have o : σ0 241 (6 * ((s.toNat : Nat) : Int) + a) = min (mt_both h (mq_w (F s.toNat)) (mt_mk h T sz (σ 237 a)) 20) 4 := hO s.toNat a a0 a1 (by omega)
    have w := J0.2.2.2 s a s0 a0 a1 (by omega)
    rw [show ((s.toNat : Nat) : Int) = s by omega] at o
    rw [heq, ms_S_p (by omega), show (s + 1 - 1).toNat = s.toNat by omega]
    exact ⟨o, by omega⟩
  have hL : ∀ a, 0 ≤ a → a < nl → 0 ≤ e 0 a ∧ σ0 229 (σ0 237 a) = e 0 a := fun a a0 a1 => by
    have md := J0.1.2.2.2.2.2 a a0 a1
    obtain ⟨g1, g2, g3, g4, g5⟩ := IM_w J0.1.1 md
    have b := mq_20 (IM_cv J0.1.1 md.1 md.2.1).1 md.2.2
    rw [heq, ms_S_0, ← h7, ms_e0 h2 h5 g2 g3, g1.2.1]
    exact ⟨b.1, rfl⟩
  have zn : mz_n nl ((c : Int) + 1) (ms_n σ0) e := fun p a p0 p1 a0 a1 => by
    obtain ⟨y1, y2⟩ := hnx p a p0 p1 a0 a1
    refine ⟨y1, y2, ?_⟩
    by_cases z : p = 0
    · rw [z]; exact (hL a a0 a1).1
    · have := (hex (p - 1) a (by omega) (by omega) a0 a1).2
      rw [show p - 1 + 1 = p by omega] at this; exact this
  have kk1 := fun σ1 i1 j1 => kk1 σ1 nl (σ 237) F c (ms_n σ0) i1 j1 ⟨hl, hB⟩
  have kk2 := fun σ1 m V i1 j1 => kk2 σ1 nl (σ 237) F c (ms_n σ0) m V i1 j1 ⟨hl, hB⟩
  rw [he] at kk1 kk2
  refine s_ends (cT := fun p => mt_cl h (ms_S h F p) cl) J0 zn (fun a => if_pos rfl) (fun s a s0 => by unfold ms_n; rw [if_neg (by omega), show s + 1 - 1 = s by omega]) (fun a a0 a1 => (hL a a0 a1).2) (fun s a s0 s1 a0 a1 => (hex s a s0 s1 a0 a1).1) (fun s s0 s1 => ?_) n1 (fun σ1 J no _ => ⟨fun z => absurd rfl z, fun _ => kk1 σ1 J.1.1 J.1.2.1 no⟩) (fun σ1 s m V J e237 mM s0 m9 ct _ => ⟨fun ne => ?_, fun z => by omega⟩)
  · obtain ⟨-, -, -, y4⟩ := J0.2.1.2.1 s.toNat (by omega)
    rw [show ((s.toNat : Nat) : Int) = s by omega] at y4
    refine ⟨?_, mt_cl_1 (by omega)⟩
    show σ0 243 s = mt_cl h (ms_S h F (s + 1)) cl
    rw [ms_S_p (by omega), show (s + 1 - 1).toNat = s.toNat by omega]; exact y4
  obtain ⟨b1, b2, b3, b4, b5, b6, b7⟩ := mq_J_b J
  have KK := kk2 σ1 m V J.1.1 J.1.2.1 mM
  unfold mz_an at KK
  -- steps back
  have B : 0 ≤ x → x < m → ∀ (N : Nat) (p : Nat) (y v : Int), x ≤ p → p < m → p + 1 ≤ N → cm_t nl σ1 (p + 1) y v → (∀ t : Nat, mz_d V (m - 1 - p + t) = mz_d v t) → f_X12_shortest_u96 Q (f_X12_shortest_u117 Q) N σ1 x y p := by
    intro x0 xm N
    induction N with
    | zero => intro p y v _ _ hN; omega
    | succ N ih =>
      intro p y v xp pm hN d hd
      obtain ⟨d1, d2, d3, d4, v', ev, d5⟩ := d
      unfold f_X12_shortest_u96
      refine ⟨fun z => ?_, fun q => ⟨d1, d2, fun _ y3 e3 => ⟨mt_I (by omega) (by omega), fun y4 e4 => ?_⟩⟩⟩
      · unfold f_X12_shortest_u117
        rw [if_neg (by omega), if_pos ⟨x0, xm⟩] at KK
        have : p = x.toNat := by omega
        have h0 := hd 0
        rw [this, show m - 1 - x.toNat + 0 = m - 1 - x.toNat by omega] at h0
        have h1 : mz_d v 0 = v % 7 - 1 := rfl
        rw [h0, h1, show v % 7 - 1 = σ1 249 y by omega, ← h7, ← e237] at KK
        exact ⟨d1, d2, fun _ => ⟨d3, by omega, fun _ => KK⟩⟩
      · obtain ⟨p', rfl⟩ : ∃ p', p = p' + 1 := ⟨p - 1, by omega⟩
        have e4 : y4 = (p' : Int) := by omega
        rw [e4, e3]
        refine ih p' _ v' (by omega) (by omega) (by omega) d5 (fun t => ?_)
        have h0 := hd (t + 1)
        have h1 : mz_d v (t + 1) = mz_d (v / 7) t := rfl
        rw [h1, show v / 7 = v' by omega] at h0
        rw [← h0, show m - 1 - p' + t = m - 1 - (p' + 1) + (t + 1) by omega]
  have A : ∀ (N : Nat) (r : Nat) (y c9 v : Int), r < N → cm_t nl σ1 r y v → c9 + r = m → 0 ≤ c9 → f_X12_shortest_u53 Q (f_X12_shortest_u74 Q) N σ1 x s c9 y := by
    intro N
    induction N with
    | zero => intro r y c9 v hN; omega
    | succ N ih =>
      intro r y c9 v hN d sm c0
      unfold f_X12_shortest_u53
      refine ⟨fun e => ?_, fun e => ?_⟩
      · have r0 : r = 0 := by
          cases r with
          | zero => rfl
          | succ r => have := d.1; omega
        have cm : c9 = m := by omega
        unfold f_X12_shortest_u74
        rw [cm]
        refine ⟨fun x1 => ⟨fun x2 => ⟨mt_I (by omega) (by omega), fun y4 e4 => ⟨m + 1, ?_⟩⟩, fun x2 => ?_⟩, fun x1 => ?_⟩
        · obtain ⟨m', rfl⟩ : ∃ m', m = m' + 1 := ⟨m - 1, by have := mM.1; omega⟩
          have e4 : y4 = (m' : Int) := by omega
          rw [e4]
          exact B (by omega) x2 _ m' _ V (by omega) (by omega) (by omega) ct (fun t => by rw [show m' + 1 - 1 - m' + t = t by omega])
        · rw [if_neg x1, if_neg (by omega)] at KK; exact KK
        · rw [if_pos x1] at KK; exact KK
      · cases r with
        | zero => exact absurd d.1 e
        | succ r =>
          obtain ⟨d1, d2, d3, d4, v', ev, d5⟩ := d
          refine ⟨mt_I (by omega) (by omega), fun y2 e2 => ⟨d1, d2, fun _ y4 e4 => ?_⟩⟩
          rw [e4]
          exact ih r _ y2 v' (by omega) d5 (by omega) (by omega)
  exact ⟨m + 1, A _ m s 0 V (by omega) ct (by omega) (by omega)⟩
/-! the model: prices, best, cheapest -/
def mq_sm (g : Int → Int) : Nat → Int
  | 0 => 0
  | n + 1 => mq_sm g n + g n
theorem mq_sm_e {g g' : Int → Int} : ∀ n : Nat, (∀ i : Int, 0 ≤ i → i < n → g' i = g i) → mq_sm g' n = mq_sm g n := by
  intro n
  induction n with
  | zero => intro _; rfl
  | succ n ih =>
    intro h
    unfold mq_sm
    rw [ih (fun i i0 i1 => h i i0 (by omega)), h n (by omega) (by omega)]
theorem mq_sm_u {g g' : Int → Int} {s : Int} (s0 : 0 ≤ s) : ∀ n : Nat, s < n → (∀ i : Int, i ≠ s → g' i = g i) → mq_sm g' n = mq_sm g n + g' s - g s := by
  intro n
  induction n with
  | zero => intro h _; omega
  | succ n ih =>
    intro h e
    unfold mq_sm
    by_cases q : s = n
    · rw [mq_sm_e n (fun i i0 i1 => e i (by omega)), ← q]; omega
    · rw [ih (by omega) e, e n (by omega)]; omega
theorem mq_sm_b {g : Int → Int} {m : Int} (h : ∀ i, 0 ≤ g i ∧ g i ≤ m) : ∀ n : Nat, 0 ≤ mq_sm g n ∧ mq_sm g n ≤ m * n := by
  intro n
  induction n with
  | zero => exact ⟨by show (0:Int) ≤ 0; omega, by show (0:Int) ≤ m * ((0:Nat):Int); simp⟩
  | succ n ih =>
    have := h n
    unfold mq_sm
    have e : m * ((n + 1 : Nat) : Int) = m * n + m := by rw [Int.natCast_add, Int.mul_add]; simp
    omega
def mq_ct (p : Int → Int) (i : Int) : Int := if p i = -1 then 0 else 1
def mq_mu (p st : Int → Int) (i : Int) : Int := if p i = -1 then 1000000000000 else p i * 1000000 + st i
/-- prices p and steps st from the states to t, over what joins them -/
def mq_at (nx : Int → Int → Int) (co p st : Int → Int) (s l : Int) : Prop := p (nx s l) ≠ -1 ∧ (p (nx s l) + co l < p s ∨ (p (nx s l) + co l = p s ∧ st (nx s l) + 1 ≤ st s))
def mq_P (c : Nat) (nl t : Int) (nx : Int → Int → Int) (co p st : Int → Int) : Prop := p t = 0 ∧ st t = 0 ∧ (∀ s : Int, 0 ≤ s → s < c → p s = -1 ∨ (0 ≤ p s ∧ p s ≤ 1000 * (mq_sm (mq_ct p) c - 1) ∧ 0 ≤ st s ∧ st s ≤ p s)) ∧ ∀ s : Int, 0 ≤ s → s < c → s ≠ t → p s ≠ -1 → ∃ l, 0 ≤ l ∧ l < nl ∧ mq_at nx co p st s l
theorem mq_P_b {c : Nat} {nl t : Int} {nx : Int → Int → Int} {co p st : Int → Int} (c1 : c ≤ 945) (P : mq_P c nl t nx co p st) {s : Int} (s0 : 0 ≤ s) (s1 : s < c) (n : p s ≠ -1) : 0 ≤ p s ∧ p s ≤ 944000 ∧ 0 ≤ st s ∧ st s ≤ p s := by
  have b := mq_sm_b (g := mq_ct p) (m := 1) (fun i => by unfold mq_ct; split <;> omega) c
  have := (P.2.2.1 s s0 s1).resolve_left n
  omega
theorem mq_P_set {c : Nat} {nl t s l : Int} {nx : Int → Int → Int} {co p st p' st' : Int → Int} (c1 : c ≤ 945) (P : mq_P c nl t nx co p st) (s0 : 0 ≤ s) (s1 : s < c) (l0 : 0 ≤ l) (l1 : l < nl) (st0 : s ≠ t) (n0 : 0 ≤ nx s l) (n1 : nx s l < c) (c0 : 1 ≤ co l) (c2 : co l ≤ 1000) (np : p (nx s l) ≠ -1) (im : p s = -1 ∨ p (nx s l) + co l < p s ∨ (p (nx s l) + co l = p s ∧ st (nx s l) + 1 < st s)) (ep : p' s = p (nx s l) + co l) (es : st' s = st (nx s l) + 1) (ep' : ∀ i, i ≠ s → p' i = p i) (es' : ∀ i, i ≠ s → st' i = st i) : mq_P c nl t nx co p' st' ∧ mq_sm (mq_mu p' st') c < mq_sm (mq_mu p st) c := by
  have B := fun (x : Int) (h0 : 0 ≤ x) (h1 : x < c) h2 => mq_P_b (s := x) c1 P h0 h1 h2
  obtain ⟨P1, P2, P3, P4⟩ := id P
  have b1 := B _ n0 n1 np
  have q := (P3 _ n0 n1).resolve_left np
  have ect : mq_sm (mq_ct p') c = mq_sm (mq_ct p) c + 1 - mq_ct p s := by
    rw [mq_sm_u s0 c s1 (g := mq_ct p) (g' := mq_ct p') (fun i hi => by unfold mq_ct; rw [ep' i hi])]
    have : mq_ct p' s = 1 := by unfold mq_ct; rw [if_neg (by omega)]
    omega
  have cge : mq_ct p s = 0 ∨ (mq_ct p s = 1 ∧ p s ≠ -1) := by
    unfold mq_ct
    by_cases z : p s = -1
    · rw [if_pos z]; exact Or.inl rfl
    · rw [if_neg z]; exact Or.inr ⟨rfl, z⟩
  -- pairs fall
  have fall : ∀ x : Int, 0 ≤ x → x < c → p x ≠ -1 → p' x ≠ -1 ∧ (p' x < p x ∨ (p' x = p x ∧ st' x ≤ st x)) := fun x x0 x1 hx => by
    by_cases z : x = s
    · subst z
      refine ⟨by omega, ?_⟩
      omega
    · rw [ep' x z, es' x z]; exact ⟨hx, Or.inr ⟨rfl, by omega⟩⟩
  refine ⟨⟨by rw [ep' t (by omega)]; exact P1, by rw [es' t (by omega)]; exact P2, fun x x0 x1 => ?_, fun x x0 x1 xt hx => ?_⟩, ?_⟩
  · by_cases z : x = s
    · subst z
      rw [ep, es, ect]
      refine Or.inr ?_
      rcases cge with g | ⟨g, g2⟩
      · omega
      · have := (P3 x x0 x1).resolve_left g2; omega
    · rw [ep' x z, es' x z, ect]
      rcases P3 x x0 x1 with g | g
      · exact Or.inl g
      · right; omega
  · by_cases z : x = s
    · subst z
      refine ⟨l, l0, l1, ?_⟩
      obtain ⟨f1, f2⟩ := fall _ n0 n1 np
      unfold mq_at
      rw [ep, es]
      exact ⟨f1, by omega⟩
    · rw [ep' x z] at hx
      obtain ⟨l', l0', l1', a1, a2⟩ := P4 x x0 x1 xt hx
      refine ⟨l', l0', l1', ?_⟩
      unfold mq_at
      rw [ep' x z, es' x z]
      by_cases w : nx x l' = s
      · have b := fall s s0 s1 (by rw [← w]; exact a1)
        rw [w] at a2 ⊢
        exact ⟨b.1, by omega⟩
      · rw [ep' _ w, es' _ w]; exact ⟨a1, a2⟩
  · rw [mq_sm_u s0 c s1 (g := mq_mu p st) (g' := mq_mu p' st') (fun i hi => by unfold mq_mu; rw [ep' i hi, es' i hi])]
    have e1 : mq_mu p' st' s = (p (nx s l) + co l) * 1000000 + (st (nx s l) + 1) := by unfold mq_mu; rw [if_neg (by omega), ep, es]
    have e2 : mq_mu p' st' s < mq_mu p st s := by
      rw [e1]
      unfold mq_mu
      by_cases z : p s = -1
      · rw [if_pos z]; omega
      · rw [if_neg z]
        have := B s s0 s1 z
        omega
    omega
/-- nothing is better by letter l -/
def mq_o (nx : Int → Int → Int) (co p st : Int → Int) (s l : Int) : Prop := p (nx s l) ≠ -1 → p s ≠ -1 ∧ (p s < p (nx s l) + co l ∨ (p s = p (nx s l) + co l ∧ st s ≤ st (nx s l) + 1))
def mq_x (σ : ml_St) (s l : Int) : Int := σ 240 (6 * s + l)
def mq_c (σ : ml_St) (l : Int) : Int := σ 220 (σ 237 l)
theorem mq_c_r {h told ts cap nl : Int} {tb cl pr sz : Int → Int} {T : Int → Int → Int} {τ0 σ : ml_St} {F : Nat → Int → Int} {c : Nat} (J : mq_J h told ts cap tb cl pr sz T τ0 nl F c σ) {l : Int} (l0 : 0 ≤ l) (l1 : l < nl) : 1 ≤ mq_c σ l ∧ mq_c σ l ≤ 1000 := by
  obtain ⟨b1, b2, b3, b4, b5, b6, b7⟩ := mq_J_b J
  have w := b7 l l0 l1
  have d := J.1.1.2.2.2.1 (σ 237 l) (by omega) (by omega)
  unfold mq_c; omega
def mq_JF (h told ts cap : Int) (tb cl pr sz : Int → Int) (T : Int → Int → Int) (τ0 : ml_St) (nl : Int) (F : Nat → Int → Int) (c : Nat) (σ0 σ : ml_St) : Prop := mq_J h told ts cap tb cl pr sz T τ0 nl F c σ ∧ ∀ j, j ≠ 250 → j ≠ 251 → σ j = σ0 j
theorem s_prices {K : ml_St → Prop} {h told ts cap nl t : Int} {tb cl pr sz : Int → Int} {T : Int → Int → Int} {τ0 σ0 : ml_St} {F : Nat → Int → Int} {c : Nat} (J0 : mq_J h told ts cap tb cl pr sz T τ0 nl F c σ0) (t0 : 0 ≤ t) (t1 : t < c) (k : ∀ σ, mq_J h told ts cap tb cl pr sz T τ0 nl F c σ → (∀ j, j ≠ 250 → j ≠ 251 → σ j = σ0 j) → mq_P c nl t (mq_x σ) (mq_c σ) (σ 250) (σ 251) → (∀ s l : Int, 0 ≤ s → s < c → s ≠ t → 0 ≤ l → l < nl → mq_o (mq_x σ) (mq_c σ) (σ 250) (σ 251) s l) → K σ) : f_X12_prices σ0 t K := by
  have b2 := (mq_J_b J0).2.1
  have JK : ∀ (σ σ' : ml_St), (∀ j, j ≠ 250 → j ≠ 251 → σ' j = σ j) → mq_JF h told ts cap tb cl pr sz T τ0 nl F c σ0 σ → mq_JF h told ts cap tb cl pr sz T τ0 nl F c σ0 σ' := fun σ σ' f J => ⟨mq_J_k (fun j h1 h2 => f j (by omega) (by omega)) (fun b _ => by rw [f 215 (by omega) (by omega)]) J.1, fun j h1 h2 => by rw [f j h1 h2, J.2 j h1 h2]⟩
  have XK : ∀ (σ σ' : ml_St), (∀ j, j ≠ 250 → j ≠ 251 → σ' j = σ j) → mq_x σ' = mq_x σ ∧ mq_c σ' = mq_c σ := fun σ σ' f => by
    constructor
    · funext s l; unfold mq_x; rw [f 240 (by omega) (by omega)]
    · funext l; unfold mq_c; rw [f 220 (by omega) (by omega), f 237 (by omega) (by omega)]
  -- rounds
  have R : ∀ (N : Nat) (ch : Int) (σ : ml_St), mq_sm (mq_mu (σ 250) (σ 251)) c + 1 < N → (ch = 0 ∨ ch = 1) → mq_JF h told ts cap tb cl pr sz T τ0 nl F c σ0 σ → mq_P c nl t (mq_x σ) (mq_c σ) (σ 250) (σ 251) → (ch = 0 → ∀ s l : Int, 0 ≤ s → s < c → s ≠ t → 0 ≤ l → l < nl → mq_o (mq_x σ) (mq_c σ) (σ 250) (σ 251) s l) → f_X12_prices_u41 K (f_X12_prices_u214 K) N σ t ch := by
    intro N
    induction N with
    | zero =>
      intro ch σ hN _ J P
      have b : ∀ n : Nat, n ≤ c → 0 ≤ mq_sm (mq_mu (σ 250) (σ 251)) n := by
        intro n
        induction n with
        | zero => intro _; show (0 : Int) ≤ 0; omega
        | succ n ihn =>
          intro hn
          have i1 := ihn (by omega)
          unfold mq_sm
          have : 0 ≤ mq_mu (σ 250) (σ 251) n := by
            unfold mq_mu
            by_cases z : σ 250 (n : Int) = -1
            · rw [if_pos z]; omega
            · rw [if_neg z]
              have := mq_P_b b2 P (s := n) (by omega) (by omega) z
              omega
          omega
      have := b c (Nat.le_refl c)
      omega
    | succ N ih =>
      intro ch σs hN hch Js Ps hok
      unfold f_X12_prices_u41
      refine ⟨fun z => ?_, fun z => ⟨c + 1, ?_⟩⟩
      · unfold f_X12_prices_u214; exact k σs Js.1 Js.2 Ps (hok z)
      -- states
      have ST : ∀ (M : Nat) (s d : Int) (σ : ml_St), 0 ≤ s → s ≤ c → c - s < M → mq_JF h told ts cap tb cl pr sz T τ0 nl F c σ0 σ → mq_P c nl t (mq_x σ) (mq_c σ) (σ 250) (σ 251) → ((d = 1 ∧ mq_sm (mq_mu (σ 250) (σ 251)) c < mq_sm (mq_mu (σs 250) (σs 251)) c) ∨ (d = 0 ∧ ∀ s' l : Int, 0 ≤ s' → s' < s → s' ≠ t → 0 ≤ l → l < nl → mq_o (mq_x σ) (mq_c σ) (σ 250) (σ 251) s' l)) → f_X12_prices_u49 K (f_X12_prices_u211 K (f_X12_prices_u41 K (f_X12_prices_u214 K) N)) M σ t d s ∨ (d = 0 ∧ mq_sm (mq_mu (σ 250) (σ 251)) c ≠ mq_sm (mq_mu (σs 250) (σs 251)) c) := by
        intro M
        induction M with
        | zero => intro s d σ s0 s1 hM; omega
        | succ M ihs =>
          intro s d σ s0 s1 hM J P D
          by_cases eqm : d = 0 ∧ mq_sm (mq_mu (σ 250) (σ 251)) c ≠ mq_sm (mq_mu (σs 250) (σs 251)) c
          · exact Or.inr eqm
          refine Or.inl ?_
          obtain ⟨b1, -, b3, b4, b5, b6, b7⟩ := mq_J_b J.1
          unfold f_X12_prices_u49
          rw [b1]
          refine fun _ => ⟨fun q => ?_, fun q => ⟨7, ?_⟩⟩
          · unfold f_X12_prices_u211
            rcases D with ⟨d1, d2⟩ | ⟨d1, d2⟩
            · subst d1
              exact ih 1 σ (by omega) (Or.inr rfl) J P (fun z => absurd z (by omega))
            · subst d1
              have same : mq_sm (mq_mu (σ 250) (σ 251)) c = mq_sm (mq_mu (σs 250) (σs 251)) c := by
                by_cases w : mq_sm (mq_mu (σ 250) (σ 251)) c = mq_sm (mq_mu (σs 250) (σs 251)) c
                · exact w
                · exact absurd ⟨rfl, w⟩ eqm
              have N1 : 1 ≤ N := by
                have b : 0 ≤ mq_sm (mq_mu (σ 250) (σ 251)) c := by
                  have b : ∀ n : Nat, n ≤ c → 0 ≤ mq_sm (mq_mu (σ 250) (σ 251)) n := by
                    intro n
                    induction n with
                    | zero => intro _; show (0 : Int) ≤ 0; omega
                    | succ n ihn =>
                      intro hn
                      have i1 := ihn (by omega)
                      unfold mq_sm
                      have : 0 ≤ mq_mu (σ 250) (σ 251) n := by
                        unfold mq_mu
                        by_cases z : σ 250 (n : Int) = -1
                        · rw [if_pos z]; omega
                        · rw [if_neg z]
                          have := mq_P_b b2 P (s := n) (by omega) (by omega) z
                          omega
                      omega
                  exact b c (Nat.le_refl c)
                omega
              obtain ⟨N', rfl⟩ : ∃ N', N = N' + 1 := ⟨N - 1, by omega⟩
              unfold f_X12_prices_u41
              refine ⟨fun _ => ?_, fun z => absurd rfl z⟩
              unfold f_X12_prices_u214
              exact k σ J.1 J.2 P (fun s' l a b e f g => d2 s' l a (by omega) e f g)
          -- letters
          have LT : ∀ (M' : Nat) (l d : Int) (σ : ml_St), 0 ≤ l → l ≤ nl → nl - l < M' → mq_JF h told ts cap tb cl pr sz T τ0 nl F c σ0 σ → mq_P c nl t (mq_x σ) (mq_c σ) (σ 250) (σ 251) → ((d = 1 ∧ mq_sm (mq_mu (σ 250) (σ 251)) c < mq_sm (mq_mu (σs 250) (σs 251)) c) ∨ (d = 0 ∧ mq_sm (mq_mu (σ 250) (σ 251)) c = mq_sm (mq_mu (σs 250) (σs 251)) c ∧ (∀ s' l : Int, 0 ≤ s' → s' < s → s' ≠ t → 0 ≤ l → l < nl → mq_o (mq_x σ) (mq_c σ) (σ 250) (σ 251) s' l) ∧ ∀ l', 0 ≤ l' → l' < l → s ≠ t → mq_o (mq_x σ) (mq_c σ) (σ 250) (σ 251) s l')) → f_X12_prices_u60 K (f_X12_prices_u205 K (f_X12_prices_u49 K (f_X12_prices_u211 K (f_X12_prices_u41 K (f_X12_prices_u214 K) N)) M)) M' σ t d s l := by
            intro M'
            induction M' with
            | zero => intro l d σ l0 l1 hM'; omega
            | succ M' ihl =>
              intro l d σ l0 l1 hM' J P D
              obtain ⟨b1, -, b3, b4, b5, b6, b7⟩ := mq_J_b J.1
              have OUT : (l = nl ∨ s = t) → f_X12_prices_u205 K (f_X12_prices_u49 K (f_X12_prices_u211 K (f_X12_prices_u41 K (f_X12_prices_u214 K) N)) M) σ t d s := fun hl => by
                unfold f_X12_prices_u205
                refine ⟨mt_I (by omega) (by omega), fun y e => ?_⟩
                subst e
                have D' : (d = 1 ∧ mq_sm (mq_mu (σ 250) (σ 251)) c < mq_sm (mq_mu (σs 250) (σs 251)) c) ∨ (d = 0 ∧ ∀ s' l : Int, 0 ≤ s' → s' < s + 1 → s' ≠ t → 0 ≤ l → l < nl → mq_o (mq_x σ) (mq_c σ) (σ 250) (σ 251) s' l) := by
                  rcases D with D | ⟨d1, d2, d3, d4⟩
                  · exact Or.inl D
                  · refine Or.inr ⟨d1, fun s' l' a b e f g => ?_⟩
                    by_cases z : s' = s
                    · subst z
                      rcases hl with hl | hl
                      · exact d4 l' f (by omega) e
                      · exact absurd hl e
                    · exact d3 s' l' a (by omega) e f g
                rcases ihs (s + 1) d σ (by omega) (by omega) (by omega) J P D' with g | g
                · exact g
                · rcases D with D | ⟨d1, d2, d3, d4⟩
                  · omega
                  · exact absurd d2 g.2
              have NX : ∀ d σ, l < nl → mq_JF h told ts cap tb cl pr sz T τ0 nl F c σ0 σ → mq_P c nl t (mq_x σ) (mq_c σ) (σ 250) (σ 251) → ((d = 1 ∧ mq_sm (mq_mu (σ 250) (σ 251)) c < mq_sm (mq_mu (σs 250) (σs 251)) c) ∨ (d = 0 ∧ mq_sm (mq_mu (σ 250) (σ 251)) c = mq_sm (mq_mu (σs 250) (σs 251)) c ∧ (∀ s' l : Int, 0 ≤ s' → s' < s → s' ≠ t → 0 ≤ l → l < nl → mq_o (mq_x σ) (mq_c σ) (σ 250) (σ 251) s' l) ∧ ∀ l', 0 ≤ l' → l' < l + 1 → s ≠ t → mq_o (mq_x σ) (mq_c σ) (σ 250) (σ 251) s l')) → f_X12_prices_u199 K (f_X12_prices_u60 K (f_X12_prices_u205 K (f_X12_prices_u49 K (f_X12_prices_u211 K (f_X12_prices_u41 K (f_X12_prices_u214 K) N)) M)) M') σ t d s l := fun d σ ll J P D => by
                unfold f_X12_prices_u199
                refine ⟨mt_I (by omega) (by omega), fun y e => ?_⟩
                subst e
                exact ihl (l + 1) d σ (by omega) (by omega) (by omega) J P D
              -- nothing better here
              have KEEP : l < nl → mq_o (mq_x σ) (mq_c σ) (σ 250) (σ 251) s l → f_X12_prices_u199 K (f_X12_prices_u60 K (f_X12_prices_u205 K (f_X12_prices_u49 K (f_X12_prices_u211 K (f_X12_prices_u41 K (f_X12_prices_u214 K) N)) M)) M') σ t d s l := fun ll ho => NX d σ ll J P (by
                rcases D with D | ⟨d1, d2, d3, d4⟩
                · exact Or.inl D
                · refine Or.inr ⟨d1, d2, d3, fun l' a b e => ?_⟩
                  by_cases z : l' = l
                  · rw [z]; exact ho
                  · exact d4 l' a (by omega) e)
              unfold f_X12_prices_u60
              rw [b3]
              refine fun _ => ⟨fun _ => OUT (Or.inl (by omega)), fun q3 => ⟨fun e => OUT (Or.inr e), fun sn => ⟨mt_I (by omega) (by omega), mt_I (by omega) (by omega), by omega, by omega, fun _ y7 e7 => ?_⟩⟩⟩
              have ll : l < nl := by omega
              obtain ⟨w1, w2, w3, w4⟩ := J.1.2.2.2 s l s0 l0 ll (by omega)
              have e7' : y7 = mq_x σ s l := e7
              rw [← e7] at w1 w2
              obtain ⟨v1, v2, -, -, -⟩ := b7 l l0 ll
              obtain ⟨u1, u2⟩ := mq_c_r J.1 l0 ll
              have ec : σ 220 (σ 237 l) = mq_c σ l := rfl
              rw [ec]
              refine ⟨w1, by omega, fun _ => ⟨fun np => ?_, fun np => KEEP ll (fun z => absurd np (by rw [e7']; exact z))⟩⟩
              have pb := mq_P_b b2 P w1 w2 np
              -- better
              have SET : ∀ y14 y17, y14 = σ 250 y7 + mq_c σ l → y17 = σ 251 y7 + 1 → (σ 250 s = -1 ∨ y14 < σ 250 s ∨ (y14 = σ 250 s ∧ y17 < σ 251 s)) → f_X12_prices_u181 K (f_X12_prices_u60 K (f_X12_prices_u205 K (f_X12_prices_u49 K (f_X12_prices_u211 K (f_X12_prices_u41 K (f_X12_prices_u214 K) N)) M)) M') σ t s l y14 y17 := by
                intro y14 y17 e14 e17 im
                unfold f_X12_prices_u181
                refine ⟨s0, by omega, fun σ1 s1 => ⟨s0, by omega, fun σ2 s2 => ?_⟩⟩
                have f2 : ∀ j, j ≠ 250 → j ≠ 251 → σ2 j = σ j := fun j h1 h2 => by rw [s2, ml_up_k h2, s1, ml_up_k h1]
                obtain ⟨x1, x2⟩ := XK σ σ2 f2
                have a250 : σ2 250 s = y14 := by rw [s2, ml_up_k (by omega), s1, ml_up_same]
                have a251 : σ2 251 s = y17 := by rw [s2, ml_up_same]
                have r := mq_P_set (p' := σ2 250) (st' := σ2 251) b2 P s0 (by omega) l0 ll sn (by rw [← e7']; exact w1) (by rw [← e7']; exact w2) u1 u2 (by rw [← e7']; exact np) (by rw [← e7', ← e14, ← e17]; exact im) (by rw [← e7', ← e14]; exact a250) (by rw [← e7', ← e17]; exact a251) (fun i hi => by rw [s2, ml_up_k (by omega), s1, ml_up_i hi]) (fun i hi => by rw [s2, ml_up_i hi, s1, ml_up_k (by omega)])
                refine NX 1 σ2 ll (JK σ σ2 f2 J) (by rw [x1, x2]; exact r.1) (Or.inl ⟨rfl, ?_⟩)
                have r2 := r.2
                rcases D with D | D
                · omega
                · omega
              refine ⟨w1, by omega, fun _ => ⟨l0, by omega, fun _ => ⟨v1, v2, fun _ => ⟨⟨by omega, by omega⟩, fun y14 e14 => ⟨w1, by omega, fun _ => ⟨⟨by omega, by omega⟩, fun y17 e17 => ⟨s0, by omega, fun _ => ⟨fun z => SET y14 y17 e14 e17 (Or.inl z), fun z => ⟨s0, by omega, fun _ => ⟨fun g => KEEP ll ?_, fun g => ⟨s0, by omega, fun _ => ⟨fun g2 => SET y14 y17 e14 e17 (Or.inr (Or.inl (by omega))), fun g2 => ⟨s0, by omega, fun _ => ⟨fun g3 => SET y14 y17 e14 e17 (Or.inr (Or.inr ⟨g2, g3⟩)), fun g3 => KEEP ll ?_⟩⟩⟩⟩⟩⟩⟩⟩⟩⟩⟩⟩⟩⟩
              · intro _
                rw [← e7']
                exact ⟨z, Or.inl (by omega)⟩
              · intro _
                rw [← e7']
                exact ⟨z, Or.inr ⟨by omega, by omega⟩⟩
          have D0 : (d = 1 ∧ mq_sm (mq_mu (σ 250) (σ 251)) c < mq_sm (mq_mu (σs 250) (σs 251)) c) ∨ (d = 0 ∧ mq_sm (mq_mu (σ 250) (σ 251)) c = mq_sm (mq_mu (σs 250) (σs 251)) c ∧ (∀ s' l : Int, 0 ≤ s' → s' < s → s' ≠ t → 0 ≤ l → l < nl → mq_o (mq_x σ) (mq_c σ) (σ 250) (σ 251) s' l) ∧ ∀ l', 0 ≤ l' → l' < 0 → s ≠ t → mq_o (mq_x σ) (mq_c σ) (σ 250) (σ 251) s l') := by
            rcases D with D | ⟨d1, d2⟩
            · exact Or.inl D
            · refine Or.inr ⟨d1, ?_, d2, fun l' a b => absurd b (by omega)⟩
              by_cases w : mq_sm (mq_mu (σ 250) (σ 251)) c = mq_sm (mq_mu (σs 250) (σs 251)) c
              · exact w
              · exact absurd ⟨d1, w⟩ eqm
          exact LT 7 0 d σ (by omega) b4 (by omega) J P D0
      rcases ST (c + 1) 0 0 σs (by omega) (by omega) (by omega) Js Ps (Or.inr ⟨rfl, fun s' l a b => absurd b (by omega)⟩) with g | g
      · exact g
      · exact absurd rfl g.2
  -- emptied
  have A : ∀ (N : Nat) (s : Int) (σ : ml_St), 0 ≤ s → s ≤ c → c - s < N → mq_JF h told ts cap tb cl pr sz T τ0 nl F c σ0 σ → (∀ s', 0 ≤ s' → s' < s → σ 250 s' = if s' = t then 0 else -1) → f_X12_prices_u2 K (f_X12_prices_u32 K) N σ t s := by
    intro N
    induction N with
    | zero => intro s σ s0 s1 hN; omega
    | succ N ih =>
      intro s σ s0 s1 hN J hp
      obtain ⟨b1, -, b3, b4, b5, b6, b7⟩ := mq_J_b J.1
      have U : ∀ v, s < c → v = (if s = t then 0 else -1) → f_X12_prices_u25 K (f_X12_prices_u2 K (f_X12_prices_u32 K) N) σ t s s v := fun v sc hv => by
        unfold f_X12_prices_u25
        refine ⟨s0, by omega, fun σ1 t1 => ⟨mt_I (by omega) (by omega), fun y e => ?_⟩⟩
        subst e
        refine ih (s + 1) σ1 (by omega) (by omega) (by omega) (JK σ σ1 (fun j h1 h2 => by rw [t1, ml_up_k h1]) J) (fun s' a b => ?_)
        rw [t1]
        by_cases z : s' = s
        · rw [z, ml_up_same, hv]
        · rw [ml_up_i z]; exact hp s' a (by omega)
      unfold f_X12_prices_u2
      rw [b1]
      refine fun _ => ⟨fun q => ?_, fun q => ⟨fun ne => U _ (by omega) (by rw [if_neg ne]), fun e => U _ (by omega) (by rw [if_pos e])⟩⟩
      unfold f_X12_prices_u32
      refine ⟨t0, by omega, fun σ1 s1' => ⟨(mq_sm (mq_mu (σ1 250) (σ1 251)) c).toNat + 2, ?_⟩⟩
      have f1 : ∀ j, j ≠ 250 → j ≠ 251 → σ1 j = σ j := fun j h1 h2 => by rw [s1', ml_up_k h2]
      have e250 : σ1 250 = σ 250 := by rw [s1', ml_up_k (by omega)]
      have et : σ1 250 t = 0 := by rw [e250, hp t t0 (by omega), if_pos rfl]
      have est : σ1 251 t = 0 := by rw [s1', ml_up_same]
      have eo : ∀ x : Int, 0 ≤ x → x < c → x ≠ t → σ1 250 x = -1 := fun x x0 x1 xt => by rw [e250, hp x x0 (by omega), if_neg xt]
      have ct : 1 ≤ mq_sm (mq_ct (σ1 250)) c := by
        have := mq_sm_u (g := fun _ => 0) (g' := fun i => if i = t then 1 else 0) t0 c t1 (fun i hi => if_neg hi)
        have z : ∀ n : Nat, mq_sm (fun _ => 0) n = 0 := by
          intro n
          induction n with
          | zero => rfl
          | succ n ihn => unfold mq_sm; rw [ihn]; rfl
        rw [z] at this
        have e : mq_sm (mq_ct (σ1 250)) c = mq_sm (fun i => if i = t then 1 else 0) c := mq_sm_e c (fun i i0 i1 => by
          unfold mq_ct
          by_cases w : i = t
          · rw [w, et, if_neg (by omega)]; rw [if_pos rfl]
          · rw [eo i i0 i1 w, if_pos rfl]; rw [if_neg w])
        rw [e, this, if_pos rfl]; omega
      refine R _ 1 σ1 (by omega) (Or.inr rfl) (JK σ σ1 f1 J) ⟨et, est, fun x x0 x1 => ?_, fun x x0 x1 xt hx => absurd (eo x x0 x1 xt) hx⟩ (fun z => absurd z (by omega))
      by_cases w : x = t
      · right; rw [w, et, est]; omega
      · left; exact eo x x0 x1 w
  unfold f_X12_prices f_X12_prices_u0
  exact ⟨c + 1, A _ 0 σ0 (by omega) (by omega) (by omega) ⟨J0, fun _ _ _ => rfl⟩ (fun s' a b => absurd b (by omega))⟩
/-! the model: best, targetOf, cheapest -/
/-- what best finds among the letters, each of which leads to D l -/
def mq_bs (nl : Int) (D co p st : Int → Int) (r : Int) : Prop := (r = -1 ∧ ∀ l, 0 ≤ l → l < nl → p (D l) = -1) ∨ (0 ≤ r ∧ r < nl ∧ p (D r) ≠ -1 ∧ ∀ l, 0 ≤ l → l < nl → p (D l) ≠ -1 → p (D r) + co r < p (D l) + co l ∨ (p (D r) + co r = p (D l) + co l ∧ (st (D r) < st (D l) ∨ (st (D r) = st (D l) ∧ r ≤ l))))
theorem s_best {K : Int → ml_St → Prop} {h told ts cap nl t x : Int} {D : Int → Int} {tb cl pr sz : Int → Int} {T : Int → Int → Int} {τ0 σ : ml_St} {F : Nat → Int → Int} {c : Nat} (J : mq_J h told ts cap tb cl pr sz T τ0 nl F c σ) (P : mq_P c nl t (mq_x σ) (mq_c σ) (σ 250) (σ 251)) (hD : ∀ l, 0 ≤ l → l < nl → 0 ≤ D l ∧ D l < c ∧ (x ≠ -1 → σ 240 (6 * x + l) = D l) ∧ (x = -1 → σ 242 l = D l)) (hx : x ≠ -1 → 0 ≤ x ∧ x < c) (k : ∀ r, mq_bs nl D (mq_c σ) (σ 250) (σ 251) r → K r σ) : f_X12_best σ x K := by
  obtain ⟨b1, b2, b3, b4, b5, b6, b7⟩ := mq_J_b J
  have L : ∀ (N : Nat) (l r y z : Int), 0 ≤ l → l ≤ nl → nl - l < N → mq_bs l D (mq_c σ) (σ 250) (σ 251) r → (r ≠ -1 → y = σ 250 (D r) + mq_c σ r ∧ z = σ 251 (D r) + 1) → f_X12_best_u10 K (f_X12_best_u141 K) N σ x r y z l := by
    intro N
    induction N with
    | zero => intro l r y z l0 l1 hN; omega
    | succ N ih =>
      intro l r y z l0 l1 hN B E
      unfold f_X12_best_u10
      rw [b3]
      refine fun _ => ⟨fun q => ?_, fun q => ?_⟩
      · unfold f_X12_best_u141
        have : l = nl := by omega
        rw [this] at B
        exact k r B
      have ll : l < nl := by omega
      obtain ⟨d0, d1, d2, d3⟩ := hD l l0 ll
      obtain ⟨u1, u2⟩ := mq_c_r J l0 ll
      obtain ⟨v1, v2, -, -, -⟩ := b7 l l0 ll
      have ec : σ 220 (σ 237 l) = mq_c σ l := rfl
      have NX : ∀ r y z, mq_bs (l + 1) D (mq_c σ) (σ 250) (σ 251) r → (r ≠ -1 → y = σ 250 (D r) + mq_c σ r ∧ z = σ 251 (D r) + 1) → f_X12_best_u135 K (f_X12_best_u10 K (f_X12_best_u141 K) N) σ x r y z l := fun r y z B E => by
        unfold f_X12_best_u135
        refine ⟨mt_I (by omega) (by omega), fun y1 e => ?_⟩
        subst e
        exact ih (l + 1) r y z (by omega) (by omega) (by omega) B E
      -- r stays
      have KEEP : (σ 250 (D l) ≠ -1 → r ≠ -1 ∧ (σ 250 (D r) + mq_c σ r < σ 250 (D l) + mq_c σ l ∨ (σ 250 (D r) + mq_c σ r = σ 250 (D l) + mq_c σ l ∧ σ 251 (D r) ≤ σ 251 (D l)))) → f_X12_best_u135 K (f_X12_best_u10 K (f_X12_best_u141 K) N) σ x r y z l := fun ho => NX r y z (by
        rcases B with ⟨e1, e2⟩ | ⟨e1, e2, e3, e4⟩
        · refine Or.inl ⟨e1, fun l' a b => ?_⟩
          by_cases w : l' = l
          · rw [w]
            by_cases w2 : σ 250 (D l) = -1
            · exact w2
            · exact absurd e1 (ho w2).1
          · exact e2 l' a (by omega)
        · refine Or.inr ⟨e1, by omega, e3, fun l' a b e => ?_⟩
          by_cases w : l' = l
          · rw [w] at e ⊢; have := (ho e).2; omega
          · exact e4 l' a (by omega) e) E
      have U : f_X12_best_u46 K (f_X12_best_u10 K (f_X12_best_u141 K) N) σ x r y z l (D l) := by
        unfold f_X12_best_u46
        rw [ec]
        refine ⟨d0, by omega, fun _ => ⟨fun np => ?_, fun np => KEEP (fun w => absurd np w)⟩⟩
        have pb := mq_P_b b2 P d0 d1 np
        have TAKE : ∀ y7, y7 = σ 250 (D l) + mq_c σ l → (r = -1 ∨ σ 250 (D l) + mq_c σ l < σ 250 (D r) + mq_c σ r ∨ (σ 250 (D l) + mq_c σ l = σ 250 (D r) + mq_c σ r ∧ σ 251 (D l) < σ 251 (D r))) → f_X12_best_u118 K (f_X12_best_u10 K (f_X12_best_u141 K) N) σ x l (D l) y7 := fun y7 e7 im => by
          unfold f_X12_best_u118
          refine ⟨d0, by omega, fun _ => ⟨⟨by omega, by omega⟩, fun y3 e3 => NX l y7 y3 ?_ (fun _ => ⟨e7, e3⟩)⟩⟩
          refine Or.inr ⟨l0, by omega, np, fun l' a b e => ?_⟩
          by_cases w : l' = l
          · rw [w]; right; omega
          · rcases B with ⟨e1, e2⟩ | ⟨e1, e2, e3, e4⟩
            · exact absurd (e2 l' a (by omega)) e
            · have := e4 l' a (by omega) e
              omega
        refine ⟨d0, by omega, fun _ => ⟨l0, by omega, fun _ => ⟨v1, v2, fun _ => ⟨⟨by omega, by omega⟩, fun y7 e7 => ⟨fun z1 => TAKE y7 e7 (Or.inl z1), fun z1 => ?_⟩⟩⟩⟩⟩
        obtain ⟨E1, E2⟩ := E z1
        refine ⟨fun g => KEEP (fun _ => ⟨z1, by omega⟩), fun g => ⟨fun g2 => TAKE y7 e7 (by omega), fun g2 => ⟨d0, by omega, fun _ => ⟨⟨by omega, by omega⟩, fun g3 => TAKE y7 e7 (by omega), fun g3 => KEEP (fun _ => ⟨z1, by omega⟩)⟩⟩⟩⟩
      refine ⟨fun z1 => ?_, fun z1 => ?_⟩
      · obtain ⟨h0, h1⟩ := hx z1
        refine ⟨mt_I (by omega) (by omega), mt_I (by omega) (by omega), by omega, by omega, ?_⟩
        rw [d2 z1]
        exact fun _ => U
      · refine ⟨l0, by omega, ?_⟩
        rw [d3 z1]
        exact fun _ => U
  unfold f_X12_best f_X12_best_u0
  exact ⟨7, L 7 0 (-1) 0 0 (by omega) b4 (by omega) (Or.inl ⟨rfl, fun l a b => absurd b (by omega)⟩) (fun z => absurd rfl z)⟩
theorem mx_am_u {f : Int → Int} {n : Nat} {r : Int} (r0 : 0 ≤ r) (r1 : r ≤ n) (h1 : ∀ a : Int, 0 ≤ a → a ≤ n → f r < f a ∨ (f r = f a ∧ r ≤ a)) : r = mx_am f n := by
  obtain ⟨y1, y2, y3, y4⟩ := mx_am_p (f := f) n
  have a := h1 _ y1 y2
  have b := y3 r r0 r1
  rcases Int.lt_or_le r (mx_am f n) with z | z
  · have := y4 r r0 z; omega
  · omega
/-- prices and steps in one -/
def mx_R (p st : Int → Int) (s : Int) : Int := if p s = -1 then 1000000000000000000 else p s * 1048576 + st s
theorem mx_R_1 {p st : Int → Int} {s : Int} (h : p s = -1) : mx_R p st s = 1000000000000000000 := if_pos h
theorem mx_R_2 {p st : Int → Int} {s : Int} (h : p s ≠ -1) : mx_R p st s = p s * 1048576 + st s := if_neg h
theorem mq_bs_am {nl r : Int} {D co p st f : Int → Int} (b : mq_bs nl D co p st r) (rn : r ≠ -1) (hf : ∀ a, 0 ≤ a → a < nl → f a = co a * 1048576 + 1 + mx_R p st (D a)) (bd : ∀ l, 0 ≤ l → l < nl → p (D l) ≠ -1 → 0 ≤ p (D l) ∧ p (D l) ≤ 944000 ∧ 0 ≤ st (D l) ∧ st (D l) ≤ 944000) (cb : ∀ l, 0 ≤ l → l < nl → 1 ≤ co l ∧ co l ≤ 1000) : r = mx_am f (nl - 1).toNat ∧ 0 ≤ r ∧ r < nl ∧ p (D r) ≠ -1 := by
  rcases b with ⟨b1, _⟩ | ⟨b1, b2, b3, b4⟩
  · exact absurd b1 rn
  refine ⟨mx_am_u b1 (by omega) (fun a a0 a1 => ?_), b1, b2, b3⟩
  rw [hf r b1 b2, hf a a0 (by omega), mx_R_2 b3]
  have x := bd r b1 b2 b3
  have c := cb r b1 b2
  have c2 := cb a a0 (by omega)
  by_cases z : p (D a) = -1
  · rw [mx_R_1 z]; omega
  · rw [mx_R_2 z]
    have y := bd a a0 (by omega) z
    have := b4 a a0 (by omega) z
    omega
theorem s_targetOf {K : Int → ml_St → Prop} {h told ts cap nl w : Int} {tb cl pr sz : Int → Int} {T : Int → Int → Int} {τ0 σ : ml_St} {F : Nat → Int → Int} {c : Nat} (J : mq_J h told ts cap tb cl pr sz T τ0 nl F c σ) (md : mt_md told (mt_mk h T sz) w) (k : ∀ r : Int, (r = -1 ∧ ∀ i : Nat, i < c → ¬ mt_eq h (F i) (mt_mk h T sz w)) ∨ (0 ≤ r ∧ r < c ∧ mt_eq h (F r.toNat) (mt_mk h T sz w)) → K r σ) : f_X12_targetOf σ w K := by
  obtain ⟨b1, b2, b3, b4, b5, b6, b7⟩ := mq_J_b J
  have h2 := J.1.1.1.2.2.1
  have h5 := J.1.1.1.2.2.2.1
  obtain ⟨g1, g2, g3, g4, g5⟩ := IM_w J.1.1 md
  have cd : ∀ i : Nat, i < c → (σ 238 i = mt_cd h (mt_mk h T sz w) ↔ mt_eq h (F i) (mt_mk h T sz w)) := fun i hi => by
    obtain ⟨f1, f2, -, -⟩ := J.2.1.2.1 i hi
    rw [f2]; exact mt_cd_iff (by omega) h5 f1 g2
  have L : ∀ (N : Nat) (i : Nat), i ≤ c → (c : Int) - i < N → (∀ j : Nat, j < i → ¬ mt_eq h (F j) (mt_mk h T sz w)) → f_X12_targetOf_u9 K (f_X12_targetOf_u30 K) (f_X12_targetOf_u39 K) N σ (mt_cd h (mt_mk h T sz w)) i := by
    intro N
    induction N with
    | zero => intro i i1 hN; omega
    | succ N ih =>
      intro i i1 hN no
      unfold f_X12_targetOf_u9
      rw [b1]
      refine fun _ => ⟨fun q => ?_, fun q => ⟨by omega, by omega, fun _ => ⟨fun ne => ⟨mt_I (by omega) (by omega), fun y e => ?_⟩, fun e => ?_⟩⟩⟩
      · unfold f_X12_targetOf_u39; exact k _ (Or.inl ⟨rfl, fun j hj => no j (by omega)⟩)
      · rw [e]
        exact ih (i + 1) (by omega) (by omega) (fun j hj => by
          by_cases z : j = i
          · rw [z]; exact fun c' => ne ((cd i (by omega)).2 c')
          · exact no j (by omega))
      · unfold f_X12_targetOf_u30; exact k _ (Or.inr ⟨by omega, by omega, by rw [show ((i : Int)).toNat = i by omega]; exact (cd i (by omega)).1 e⟩)
  unfold f_X12_targetOf f_X12_targetOf_u0
  exact s_codeOf h2 h5 ⟨g4, by omega⟩ J.1.1.1.1 g2 (fun e e0 e1 => (g1.1 e e0 e1).1) (fun _ => ⟨c + 1, L _ 0 (by omega) (by omega) (fun j hj => absurd hj (by omega))⟩)
/-- the model's answer -/
def mx_V (L : Int) (W R : Int → Int) (nx : Int → Int → Int) : Int := mx_f W R nx 0 (mx_b L (mx_f W R nx) nx 0)
def mx_mn (L : Int) (l W R : Int → Int) (nx : Int → Int → Int) (x : Int) : Int := if x = -2 then mx_V L W R nx / 1048576 else if x = -1 then mx_V L W R nx % 1048576 else if 0 ≤ x ∧ x < mx_V L W R nx % 1048576 then l (mx_b L (mx_f W R nx) nx x.toNat) else -1
theorem m_cheapest {Q : Int → ml_St → Prop} {h told ts cap set w x : Int} {tb cl pr sz : Int → Int} {T : Int → Int → Int} {τ : ml_St} (i : IM h told ts cap tb cl pr sz T τ) (k0 : ¬ (mt_ls told (mt_mk h T sz) set ∧ mt_md told (mt_mk h T sz) w ∧ -2 ≤ x) → ∀ σ, IM h told ts cap tb cl pr sz T σ → (∀ j, j < 215 → σ j = τ j) → Q (-1) σ) (k1 : mt_ls told (mt_mk h T sz) set → mt_md told (mt_mk h T sz) w → -2 ≤ x → ∀ σ L l F (c : Nat) nx, IM h told ts cap tb cl pr sz T σ → (∀ j, j < 215 → σ j = τ j) → ms_M h told (mt_mk h T sz) set L l F c nx → (∀ i : Nat, i < c → ¬ mt_eq h (F i) (mt_mk h T sz w)) → Q (-1) σ) (k2 : mt_ls told (mt_mk h T sz) set → mt_md told (mt_mk h T sz) w → -2 ≤ x → ∀ σ L l F (c : Nat) nx t W R, IM h told ts cap tb cl pr sz T σ → (∀ j, j < 215 → σ j = τ j) → ms_M h told (mt_mk h T sz) set L l F c nx → 1 ≤ t → t < (c : Int) + 1 → mt_eq h (F (t - 1).toNat) (mt_mk h T sz w) → (∀ i, W i = pr (l i) * 1048576 + 1) → mx_bw ((c : Int) + 1) L t W nx R → R (mx_pa L (mx_f W R nx) nx 1) < 1000000000000000000 → Q (mx_mn L l W R nx x) σ) : f_X12_cheapest τ set w x Q := by
  unfold f_X12_cheapest f_X12_cheapest_u0
  unfold f_X12_cheapest_u22
  refine s_isLetters i (fun no σ i' f _ => ⟨fun _ => k0 (fun y => no y.1) _ i' f, fun z => absurd rfl z⟩) (fun ls σ nl L hl _ => ⟨fun z => absurd z (by omega), fun _ => m_isMade L.1 (fun md _ => ⟨fun z => absurd z (by omega), fun _ => ⟨fun x0 => s_joinsAll L (fun σ0 F c J0 hB hO h7 => s_targetOf J0 md (fun t ht _ => ⟨fun nt => ?_, fun e => k1 ls md x0 σ0 nl (σ 237) F c (ms_n σ0) J0.1.1 J0.1.2.1 ⟨hl, hB⟩ (ht.resolve_right (fun z => by omega)).2⟩)), fun z => k0 (fun y => z y.2.2) σ L.1 L.2.1⟩⟩) (fun no _ => ⟨fun _ => k0 (fun y => no y.2.1) σ L.1 L.2.1, fun z => absurd rfl z⟩)⟩)
  have kk := k2 ls md x0
  clear k0 k1 k2
  obtain ⟨t0, t1, eqt⟩ := ht.resolve_left (fun z => nt z.1)
  refine s_prices J0 t0 t1 (fun σ2 J f2 P O => ?_)
  obtain ⟨b1, b2, b3, b4, b5, b6, b7⟩ := mq_J_b J
  have hn2 : ms_n σ2 = ms_n σ0 := by
    funext p a
    unfold ms_n
    rw [f2 242 (by omega) (by omega), f2 240 (by omega) (by omega)]
  have e237 : σ2 237 = σ 237 := by rw [f2 237 (by omega) (by omega), h7]
  have B := hB
  unfold ms_B at B
  rw [← hn2] at B
  have cp : ∀ a, 0 ≤ a → a < nl → mq_c σ2 a = pr (σ 237 a) := fun a a0 a1 => by
    have v := b7 a a0 a1
    unfold mq_c
    rw [(J.1.1.2.2.2.1 (σ2 237 a) v.1 v.2.1).1, e237]
  have n0 : ∀ a, ms_n σ2 0 a = σ2 242 a + 1 := fun a => if_pos rfl
  have ns : ∀ s a, 0 ≤ s → ms_n σ2 (s + 1) a = mq_x σ2 s a + 1 := fun s a s0 => by
    unfold ms_n mq_x
    rw [if_neg (by omega), show s + 1 - 1 = s by omega]
  generalize hR : (fun q : Int => mx_R (σ2 250) (σ2 251) (q - 1)) = R
  have Re : ∀ q, R (q + 1) = mx_R (σ2 250) (σ2 251) q := fun q => by rw [← hR]; show mx_R _ _ (q + 1 - 1) = _; rw [show q + 1 - 1 = q by omega]
  generalize hW : (fun i : Int => pr (σ 237 i) * 1048576 + 1) = W
  have We : ∀ i, W i = pr (σ 237 i) * 1048576 + 1 := fun i => by rw [← hW]
  have Wc : ∀ a, 0 ≤ a → a < nl → W a = mq_c σ2 a * 1048576 + 1 := fun a a0 a1 => by rw [We, cp a a0 a1]
  have bd : ∀ s, 0 ≤ s → s < (c : Int) → σ2 250 s ≠ -1 → 0 ≤ σ2 250 s ∧ σ2 250 s ≤ 944000 ∧ 0 ≤ σ2 251 s ∧ σ2 251 s ≤ 944000 := fun s s0 s1 n => by have := mq_P_b b2 P s0 s1 n; omega
  have cb : ∀ l, 0 ≤ l → l < nl → 1 ≤ mq_c σ2 l ∧ mq_c σ2 l ≤ 1000 := fun l l0 l1 => mq_c_r J l0 l1
  have xb : ∀ s a, 0 ≤ s → s < (c : Int) → 0 ≤ a → a < nl → 0 ≤ mq_x σ2 s a ∧ mq_x σ2 s a < c := fun s a s0 s1 a0 a1 => by
    obtain ⟨w1, w2, -, -⟩ := J.2.2.2 s a s0 a0 a1 (by omega)
    exact ⟨w1, w2⟩
  have hf0 : ∀ a, 0 ≤ a → a < nl → mx_f W R (ms_n σ2) 0 a = mq_c σ2 a * 1048576 + 1 + mx_R (σ2 250) (σ2 251) (σ2 242 a) := fun a a0 a1 => by
    unfold mx_f; rw [n0, Re, Wc a a0 a1]
  have hfs : ∀ s a, 0 ≤ s → 0 ≤ a → a < nl → mx_f W R (ms_n σ2) (s + 1) a = mq_c σ2 a * 1048576 + 1 + mx_R (σ2 250) (σ2 251) (mq_x σ2 s a) := fun s a s0 a0 a1 => by
    unfold mx_f; rw [ns s a s0, Re, Wc a a0 a1]
  have G : mx_bw ((c : Int) + 1) nl (t + 1) W (ms_n σ2) R := by
    refine ⟨?_, fun p p1 p2 => ?_, fun p a p1 p2 pt a0 a1 => ?_, fun p p1 p2 pt pf => ?_⟩
    · rw [Re, mx_R_2 (by rw [P.1]; omega), P.1, P.2.1]; rfl
    · rw [show p = p - 1 + 1 by omega, Re]
      by_cases z : σ2 250 (p - 1) = -1
      · rw [mx_R_1 z]; omega
      · rw [mx_R_2 z]; have := bd (p - 1) (by omega) (by omega) z; omega
    · have o := O (p - 1) a (by omega) (by omega) (by omega) a0 a1
      rw [show p = p - 1 + 1 by omega, ns _ a (by omega), Re, Re, Wc a a0 a1]
      obtain ⟨w1, w2⟩ := xb (p - 1) a (by omega) (by omega) a0 a1
      have cc := cb a a0 a1
      unfold mq_o at o
      generalize mq_x σ2 (p - 1) a = y at *
      by_cases z : σ2 250 y = -1
      · rw [mx_R_1 z]
        by_cases z2 : σ2 250 (p - 1) = -1
        · rw [mx_R_1 z2]; omega
        · rw [mx_R_2 z2]; have := bd (p - 1) (by omega) (by omega) z2; omega
      · obtain ⟨o1, o2⟩ := o z
        rw [mx_R_2 z, mx_R_2 o1]
        have := bd _ w1 w2 z
        have := bd (p - 1) (by omega) (by omega) o1
        omega
    · rw [show p = p - 1 + 1 by omega, Re] at pf
      have z2 : σ2 250 (p - 1) ≠ -1 := fun z => by rw [mx_R_1 z] at pf; omega
      obtain ⟨l, l0, l1, a1, a2⟩ := P.2.2.2 (p - 1) (by omega) (by omega) (by omega) z2
      obtain ⟨o1, o2⟩ := O (p - 1) l (by omega) (by omega) (by omega) l0 l1 a1
      refine ⟨l, l0, l1, ?_⟩
      rw [show p = p - 1 + 1 by omega, ns _ l (by omega), Re, Re, Wc l l0 l1, mx_R_2 a1, mx_R_2 z2]
      omega
  -- something leads to the target
  have reach : ∀ (N : Nat) (q : Int), q < N → 1 ≤ q → q < (c : Int) + 1 → σ2 250 (q - 1) ≠ -1 → ∃ l, 0 ≤ l ∧ l < nl ∧ σ2 250 (σ2 242 l) ≠ -1 := by
    intro N
    induction N with
    | zero => intro q h0 h1; omega
    | succ N ih =>
      intro q h0 h1 h2 hq
      obtain ⟨p, a, y1, y2, y3, y4, y5, y6⟩ := B.2.2.2.2.2 q h1 h2
      by_cases z : p = 0
      · rw [z, n0] at y6
        exact ⟨a, y3, y4, by rw [show σ2 242 a = q - 1 by omega]; exact hq⟩
      · refine ih p (by omega) (by omega) (by omega) ?_
        rw [show p = p - 1 + 1 by omega, ns _ a (by omega)] at y6
        by_cases pt : p - 1 = t
        · rw [pt, P.1]; omega
        · exact (O (p - 1) a (by omega) (by omega) pt y3 y4 (by rw [show mq_x σ2 (p - 1) a = q - 1 by omega]; exact hq)).1
  obtain ⟨l9, l90, l91, l92⟩ := reach (c + 1) (t + 1) (by omega) (by omega) (by omega) (by rw [show t + 1 - 1 = t by omega, P.1]; omega)
  have KK := kk σ2 nl (σ 237) F c (ms_n σ2) (t + 1) W R J.1.1 J.1.2.1 ⟨hl, B⟩ (by omega) (by omega) (by rw [show t + 1 - 1 = t by omega]; exact eqt) We G
  refine s_best (D := σ2 242) J P (fun l l0 l1 => ⟨(b7 l l0 l1).2.2.2.1, (b7 l l0 l1).2.2.2.2, fun z => absurd rfl z, fun _ => rfl⟩) (fun z => absurd rfl z) (fun r Bs _ => ⟨fun rn => ?_, fun rn => ?_⟩)
  rotate_left
  · rcases Bs with ⟨_, e⟩ | ⟨e, _⟩
    · exact absurd (e l9 l90 l91) l92
    · omega
  obtain ⟨er, r0, r1, pn⟩ := mq_bs_am (f := mx_f W R (ms_n σ2) 0) Bs rn hf0 (fun l l0 l1 => bd _ (b7 l l0 l1).2.2.2.1 (b7 l l0 l1).2.2.2.2) cb
  have eb : mx_b nl (mx_f W R (ms_n σ2)) (ms_n σ2) 0 = r := er.symm
  have ep : mx_pa nl (mx_f W R (ms_n σ2)) (ms_n σ2) 1 = σ2 242 r + 1 := by rw [mx_pa_s, eb]; exact n0 r
  obtain ⟨v1, v2, -, v4, v5⟩ := b7 r r0 r1
  have pb := bd _ v4 v5 pn
  obtain ⟨u1, u2⟩ := cb r r0 r1
  have ec : σ2 220 (σ2 237 r) = mq_c σ2 r := rfl
  have eV : mx_V nl W R (ms_n σ2) = (mq_c σ2 r + σ2 250 (σ2 242 r)) * 1048576 + (σ2 251 (σ2 242 r) + 1) := by
    unfold mx_V
    rw [eb, hf0 r r0 r1, mx_R_2 pn]; omega
  have KK := KK (by rw [ep, Re, mx_R_2 pn]; omega)
  unfold mx_mn at KK
  rw [eV, show ((mq_c σ2 r + σ2 250 (σ2 242 r)) * 1048576 + (σ2 251 (σ2 242 r) + 1)) / 1048576 = mq_c σ2 r + σ2 250 (σ2 242 r) by omega, show ((mq_c σ2 r + σ2 250 (σ2 242 r)) * 1048576 + (σ2 251 (σ2 242 r) + 1)) % 1048576 = σ2 251 (σ2 242 r) + 1 by omega] at KK
  -- along the way
  have V : 0 ≤ x → x < σ2 251 (σ2 242 r) + 1 → ∀ (N : Nat) (j : Nat) (s : Int), j ≤ x → x - j < N → 0 ≤ s → s < c → mx_pa nl (mx_f W R (ms_n σ2)) (ms_n σ2) (j + 1) = s + 1 → 0 ≤ mx_b nl (mx_f W R (ms_n σ2)) (ms_n σ2) j → mx_b nl (mx_f W R (ms_n σ2)) (ms_n σ2) j < nl → σ2 250 s ≠ -1 → x - j ≤ σ2 251 s → f_X12_cheapest_u130 Q (f_X12_cheapest_u165 Q) N σ2 x (mx_b nl (mx_f W R (ms_n σ2)) (ms_n σ2) j) s j := by
    intro x0 x1 N
    induction N with
    | zero => intro j s j1 hN; omega
    | succ N ih =>
      intro j s j1 hN s0 s1 es l0 l1 ps ws
      unfold f_X12_cheapest_u130
      refine ⟨fun xj => ?_, fun q => ?_⟩
      · unfold f_X12_cheapest_u165
        have : j = x.toNat := by omega
        rw [if_neg (by omega), if_neg (by omega), if_pos ⟨x0, x1⟩, ← this, ← e237] at KK
        exact ⟨l0, by omega, fun _ => KK⟩
      have st : s ≠ t := fun e => by rw [e, P.2.1] at ws; omega
      refine s_best (D := mq_x σ2 s) J P (fun l l0 l1 => ⟨(xb s l s0 s1 l0 l1).1, (xb s l s0 s1 l0 l1).2, fun _ => rfl, fun z => by omega⟩) (fun _ => ⟨s0, s1⟩) (fun r2 B2 _ => ?_)
      obtain ⟨l', l0', l1', a1, a2⟩ := P.2.2.2 s s0 s1 st ps
      have rn2 : r2 ≠ -1 := fun e => by
        rcases B2 with ⟨_, e2⟩ | ⟨g0, _⟩
        · exact absurd (e2 l' l0' l1') a1
        · omega
      have g4 := B2
      obtain ⟨er2, g0, g1, g2⟩ := mq_bs_am (f := mx_f W R (ms_n σ2) (s + 1)) B2 rn2 (hfs s · s0) (fun l l0 l1 => bd _ (xb s l s0 s1 l0 l1).1 (xb s l s0 s1 l0 l1).2) cb
      have eb2 : mx_b nl (mx_f W R (ms_n σ2)) (ms_n σ2) (j + 1) = r2 := by unfold mx_b; rw [es]; exact er2.symm
      obtain ⟨w1, w2⟩ := xb s r2 s0 s1 g0 g1
      have o := O s r2 s0 s1 st g0 g1 g2
      have g5 := (g4.resolve_left (fun z => rn2 z.1)).2.2.2 l' l0' l1' a1
      refine ⟨mt_I (by omega) (by omega), mt_I (by omega) (by omega), by omega, by omega, fun _ y6 e6 => ⟨⟨by omega, by omega⟩, fun y7 e7 => ?_⟩⟩
      have ex : σ2 240 (6 * s + r2) = mq_x σ2 s r2 := rfl
      rw [ex] at e6
      rw [e7, ← eb2, e6]
      have := o.2
      exact ih (j + 1) (mq_x σ2 s r2) (by omega) (by omega) w1 w2 (by rw [mx_pa_s, es, eb2, ns s r2 s0]) (by omega) (by omega) g2 (by omega)
  rw [ec]
  refine ⟨r0, by omega, fun _ y13 e13 => ?_⟩
  subst e13
  refine ⟨v4, by omega, fun _ => ⟨⟨by omega, by omega⟩, fun y16 e16 => ⟨fun z => ⟨fun z2 => ⟨fun q => ⟨(x + 1).toNat, ?_⟩, fun q => ?_⟩, fun z2 => ?_⟩, fun z => ⟨v4, by omega, fun _ => ⟨r0, by omega, fun _ => ⟨v1, v2, fun _ => ⟨⟨by omega, by omega⟩, ?_⟩⟩⟩⟩⟩⟩⟩
  · have q1 : x < σ2 251 (σ2 242 r) + 1 := by rw [← e16]; exact q
    have x9 : 0 ≤ x := by omega
    have j9 : (((0 : Nat) : Int)) ≤ x := x9
    have j8 : x - (((0 : Nat) : Int)) < ((x + 1).toNat : Int) := by omega
    have j7 : x - (((0 : Nat) : Int)) ≤ σ2 251 (σ2 242 r) := by omega
    have g := V x9 q1 (x + 1).toNat (0 : Nat) (σ2 242 r) j9 j8 v4 v5 ep (by rw [eb]; exact r0) (by rw [eb]; exact r1) pn j7
    rw [eb] at g
    exact g
  · rw [if_neg z, if_neg z2, if_neg (by omega)] at KK; exact KK
  · rw [if_neg z, if_pos z2] at KK; rw [e16]; exact KK
  · rw [if_pos z, Int.add_comm] at KK; exact KK
/-! the model: mend, back -/
theorem s_isOne {Q : Int → ml_St → Prop} {h told ts cap n x : Int} {tb cl pr sz : Int → Int} {T : Int → Int → Int} {τ0 σ0 : ml_St} (i : IM h told ts cap tb cl pr sz T σ0) (f0 : ∀ j, j < 215 → σ0 j = τ0 j) (n0 : 0 ≤ n) (n10 : n ≤ 10) (R : ∀ i, 0 ≤ i → i < n → 0 ≤ σ0 253 i ∧ σ0 253 i ≤ h - 2) (k : ∀ r σ, (r = 0 ∨ r = 1) → IM h told ts cap tb cl pr sz T σ → (∀ j, j < 215 → σ j = τ0 j) → σ 253 = σ0 253 → Q r σ) : f_X12_isOne σ0 n x Q := by
  have h2 := i.1.2.2.1
  have h5 := i.1.2.2.2.1
  have FK : ∀ (c : Int) (σ σ' : ml_St), 16 ≤ c → mt_mf c σ σ' → (IM h told ts cap tb cl pr sz T σ ∧ (∀ j, j < 215 → σ j = τ0 j) ∧ σ 253 = σ0 253) → (IM h told ts cap tb cl pr sz T σ' ∧ (∀ j, j < 215 → σ' j = τ0 j) ∧ σ' 253 = σ0 253) := fun c σ σ' c16 f g => ⟨IM_kq (mt_kq_mf c16 f) g.1, fun j hj => by rw [(mt_kq_mf c16 f).2.2.2 j hj, g.2.1 j hj], by rw [f.1 253 (by omega) (by omega) (by omega) (by omega) (by omega) (by omega) (by omega), g.2.2]⟩
  -- all signs stand
  have E : ∀ (v : Int → Int) (σ : ml_St), (IM h told ts cap tb cl pr sz T σ ∧ (∀ j, j < 215 → σ j = τ0 j) ∧ σ 253 = σ0 253) → mt_M h v → mt_mv h σ 20 v → f_X12_isOne_u77 Q σ := by
    intro v σ g hv wv
    unfold f_X12_isOne_u77
    refine ⟨by omega, by omega, fun _ => s_closing h2 h5 ⟨by omega, by omega⟩ g.1.1.1 hv g.1.2.2.1.2.2.2 (fun e e0 e1 => (wv.1 e e0 e1).1) g.1.2.2.1.2.2.1 (fun σ2 f _ => ?_)⟩
    have g2 : IM h told ts cap tb cl pr sz T σ2 ∧ (∀ j, j < 215 → σ2 j = τ0 j) ∧ σ2 253 = σ0 253 := ⟨IM_kq (mt_kq_234 f) g.1, fun j hj => by rw [f j (by omega), g.2.1 j hj], by rw [f 253 (by omega), g.2.2]⟩
    refine ⟨fun _ => s_powers h2 h5 (by omega) (by omega) g2.1.1.1 hv (mt_mv_o (fun j j0 j1 => f j (by omega)) wv) g2.1.2.2.1.2.2.2 g2.1.2.2.1.2.2.1 (fun σ5 a b q p => ⟨2900, ?_⟩), fun _ => k 0 σ2 (Or.inl rfl) g2.1 g2.2.1 g2.2.2⟩
    have g5 : IM h told ts cap tb cl pr sz T σ5 ∧ (∀ j, j < 215 → σ5 j = τ0 j) ∧ σ5 253 = σ0 253 := ⟨IM_kq (mq_f_kq q) g2.1, fun j hj => by rw [(mq_f_kq q).2.2.2 j hj, g2.2.1 j hj], by rw [q.1 253 (by omega) (by omega) (by omega) (by omega) (by omega) (by omega), g2.2.2]⟩
    obtain ⟨p1, p2, p3, p4, p5, -⟩ := p
    have L : ∀ (N : Nat) (j : Int), 1 ≤ j → j ≤ 2 * b - a + 2 → 2 * b - a + 2 - j < N → f_X12_isOne_u107 Q (f_X12_isOne_u126 Q) (f_X12_isOne_u134 Q) N σ5 j := by
      intro N
      induction N with
      | zero => intro j j0 j1 hN; omega
      | succ N ih =>
        intro j j0 j1 hN
        unfold f_X12_isOne_u107
        rw [p5]
        refine fun _ => ⟨fun _ => ?_, fun q => ⟨by omega, by omega, fun _ => ⟨fun _ => ⟨mt_I (by omega) (by omega), fun y e => ?_⟩, fun _ => ?_⟩⟩⟩
        · unfold f_X12_isOne_u134; exact k 1 σ5 (Or.inr rfl) g5.1 g5.2.1 g5.2.2
        · subst e; exact ih (j + 1) (by omega) (by omega) (by omega)
        · unfold f_X12_isOne_u126; exact k 0 σ5 (Or.inl rfl) g5.1 g5.2.1 g5.2.2
    exact L 2900 1 (by omega) (by omega) (by omega)
  have L : ∀ (N : Nat) (j : Int) (v : Int → Int) (σ : ml_St), 0 ≤ j → j ≤ n → n - j < N → (IM h told ts cap tb cl pr sz T σ ∧ (∀ j, j < 215 → σ j = τ0 j) ∧ σ 253 = σ0 253) → mt_M h v → mt_mv h σ 20 v → f_X12_isOne_u8 Q (f_X12_isOne_u77 Q) N σ n x j := by
    intro N
    induction N with
    | zero => intro j v σ j0 j1 hN; omega
    | succ N ih =>
      intro j v σ j0 j1 hN g hv wv
      have U : ∀ s2, j < n → f_X12_isOne_u44 Q (f_X12_isOne_u8 Q (f_X12_isOne_u77 Q) N) σ n x j 21 s2 := fun s2 jn => by
        unfold f_X12_isOne_u44
        rw [g.2.2]
        have r := R j j0 jn
        refine ⟨j0, by omega, fun _ => s_sign h2 h5 ⟨by omega, by omega⟩ g.1.1.1 r.1 (by omega) (fun σ2 p2 w2 => ?_)⟩
        have g2 := FK 21 σ σ2 (by omega) p2 g
        have sM : mt_M h (mt_sgn h (σ0 253 j) (if s2 = 0 then 1 else 0)) := mt_sgn_M h5 r.1 (by omega)
        refine s_lays h2 h5 ⟨by omega, by omega⟩ ⟨by omega, by omega⟩ ⟨by omega, by omega⟩ g2.1.1.1 hv sM (mt_mv_f h5 p2 (by omega) wv) w2 (by omega) (by omega) (fun σ3 p3 w3 => ?_)
        have g3 := FK 22 σ2 σ3 (by omega) p3 g2
        refine s_copies h2 h5 ⟨by omega, by omega⟩ ⟨by omega, by omega⟩ (by omega) g3.1.1.1 w3 (fun σ4 p4 w4 => ⟨mt_I (by omega) (by omega), fun y e => ?_⟩)
        subst e
        exact ih (j + 1) _ σ4 (by omega) (by omega) (by omega) (FK 20 σ3 σ4 (by omega) p4 g3) (mt_both_M h5 hv sM) w4
      have U2 : ∀ s2, j < n → f_X12_isOne_u31 Q (f_X12_isOne_u8 Q (f_X12_isOne_u77 Q) N) σ n x j 21 s2 := fun s2 jn => by
        unfold f_X12_isOne_u31
        exact s_has (fun _ _ => ⟨fun _ => U _ jn, fun _ => U _ jn⟩) (fun _ _ => ⟨fun _ => U _ jn, fun _ => U _ jn⟩)
      unfold f_X12_isOne_u8
      exact ⟨fun _ => E v σ g hv wv, fun q => ⟨j0, by omega, fun _ => ⟨fun _ => U2 _ (by omega), fun _ => U2 _ (by omega)⟩⟩⟩
  unfold f_X12_isOne f_X12_isOne_u0
  refine s_straight h2 h5 ⟨by omega, by omega⟩ i.1.1 (fun σ1 p1 w1 => ⟨11, ?_⟩)
  exact L 11 0 _ σ1 (by omega) n0 (by omega) (FK 20 σ0 σ1 (by omega) p1 ⟨i, f0, rfl⟩) (mt_str_M h5) w1
theorem s_sizeOf {Q : Int → ml_St → Prop} {x : Int} {σ : ml_St} (x0 : 0 ≤ x) (x1 : x < 2000) (k : ∀ r, I32 r → Q r σ) : f_X12_sizeOf σ x Q := by
  have L : ∀ (N : Nat) (m : Nat) (s : Int), m < 2000 → m < N → 0 ≤ s → s + m ≤ 4000 → f_X12_sizeOf_u4 Q (f_X12_sizeOf_u20 Q) N σ s m := by
    intro N
    induction N with
    | zero => intro m s _ hN; omega
    | succ N ih =>
      intro m s m1 hN s0 s1
      unfold f_X12_sizeOf_u4
      refine ⟨fun _ => ?_, fun q => ⟨mt_I (by omega) (by omega), fun y2 e2 => ⟨mt_I (by omega) (by omega), fun y4 e4 => ?_⟩⟩⟩
      · unfold f_X12_sizeOf_u20; exact k s (mt_I (by omega) (by omega))
      · obtain ⟨m', rfl⟩ : ∃ m', m = m' + 1 := ⟨m - 1, by omega⟩
        rw [show ((m' + 1 : Nat) : Int) - 1 = (m' : Int) by omega, mb_and (by omega) (by omega)] at e4
        have := Nat.and_le_right (n := m' + 1) (m := m')
        subst e4; subst e2
        exact ih _ _ (by omega) (by omega) (by omega) (by omega)
  unfold f_X12_sizeOf f_X12_sizeOf_u0
  have := L (x.toNat + 1) x.toNat 0 (by omega) (by omega) (by omega) (by omega)
  rw [show ((x.toNat : Nat) : Int) = x by omega] at this
  exact ⟨_, this⟩
theorem m_mend {Q : Int → ml_St → Prop} {h told ts cap w : Int} {tb cl pr sz : Int → Int} {T : Int → Int → Int} {τ : ml_St} (i : IM h told ts cap tb cl pr sz T τ) (k : ∀ r σ, IM h told ts cap tb cl pr sz T σ → (∀ j, j < 215 → σ j = τ j) → Q r σ) : f_X12_mend τ w Q := by
  have t16 := i.1.2.2.2.2.2
  have h2 := i.1.2.2.1
  have h5 := i.1.2.2.2.1
  have no : ∀ r, Q r τ := fun r => k r τ i (fun _ _ => rfl)
  unfold f_X12_mend f_X12_mend_u0
  unfold f_X12_mend_u27
  refine m_isWord i (fun w0 w1 _ => ⟨fun z => absurd z (by omega), fun _ => ?_⟩) (fun q _ => ⟨fun _ => no _, fun z => absurd rfl z⟩)
  obtain ⟨g, e1, et⟩ := (i.2.2.2.2 w w0 w1).1
  have g1 := g.1
  have g2 := g.2.1
  refine s_isPlain (t := T w) w0 (by omega) (by omega) g2 e1 et (fun z _ => ⟨fun z => absurd z (by omega), fun _ => ⟨w0, by omega, ?_⟩⟩) (fun _ _ => ⟨fun _ => no _, fun z => absurd rfl z⟩)
  rw [e1]
  refine fun _ => ⟨fun s20 => ⟨w0, by omega, fun _ => ⟨by omega, ?_⟩⟩, fun _ => no _⟩
  have hall := mt_pl_all (t := T w) (sz w).toNat z
  have prs := mt_pairs (t := T w) (n := sz w) (h := h) (w := w) (by omega) (fun j j0 j1 => by have := hall j.toNat (by omega); rw [show ((j.toNat : Nat) : Int) = j by omega] at this; exact this) _ 0 0 1 (Int.le_refl 0) g.2.2.2 (by omega) (by omega)
  have prs' : ∀ k : Nat, 2 * (k : Int) < sz w → (T w (2 * k) = 120 ∨ T w (2 * k) = 117) ∧ 2 * (k : Int) + 1 < sz w ∧ 48 ≤ T w (2 * k + 1) ∧ T w (2 * k + 1) ≤ 57 ∧ T w (2 * k + 1) - 48 ≤ h - 2 := fun k hk => by
    have := prs k (by omega)
    rw [show (0 : Int) + 2 * k = 2 * k by omega] at this
    exact this
  have td : Int.tdiv (sz w) 2 = sz w / 2 := Int.tdiv_eq_ediv_of_nonneg (by omega)
  rw [td]
  refine ⟨mt_I (by omega) (by omega), fun n en => ⟨12, ?_⟩⟩
  have n10 : n ≤ 10 := by omega
  have n0 : 0 ≤ n := by omega
  -- the sets
  have pb : 0 < 2 ^ n.toNat ∧ 2 ^ n.toNat ≤ 1024 := ⟨Nat.pow_pos (by omega), by
    have := Nat.pow_le_pow_right (show 0 < 2 by omega) (show n.toNat ≤ 10 by omega)
    omega⟩
  have es := mb_shl (r := n.toNat) (by omega)
  rw [show ((n.toNat : Nat) : Int) = n by omega] at es
  have S : ∀ (N : Nat) (m : Nat) (b : Int) (σ : ml_St), m ≤ 2 ^ n.toNat → 2 ^ n.toNat - m < N → b < m → IM h told ts cap tb cl pr sz T σ → (∀ j, j < 215 → σ j = τ j) → (∀ i, 0 ≤ i → i < n → 0 ≤ σ 253 i ∧ σ 253 i ≤ h - 2) → f_X12_mend_u110 Q (f_X12_mend_u153 Q) N σ n b m := by
    intro N
    induction N with
    | zero => intro m b σ m1 hN; omega
    | succ N ih =>
      intro m b σ m1 hN bm i' f' R
      have U : ∀ b' σ, b' < (m : Int) + 1 → m < 2 ^ n.toNat → IM h told ts cap tb cl pr sz T σ → (∀ j, j < 215 → σ j = τ j) → (∀ i, 0 ≤ i → i < n → 0 ≤ σ 253 i ∧ σ 253 i ≤ h - 2) → f_X12_mend_u147 Q (f_X12_mend_u110 Q (f_X12_mend_u153 Q) N) σ n b' m := fun b' σ hb mm i' f' R => by
        unfold f_X12_mend_u147
        refine ⟨mt_I (by omega) (by omega), fun y e => ?_⟩
        have e : y = ((m + 1 : Nat) : Int) := by omega
        subst e
        exact ih (m + 1) b' σ (by omega) (by omega) (by omega) i' f' R
      have V : m < 2 ^ n.toNat → f_X12_mend_u134 Q (f_X12_mend_u110 Q (f_X12_mend_u153 Q) N) σ n b m := fun mm => by
        unfold f_X12_mend_u134
        refine s_isOne i' f' n0 n10 R (fun r σ1 _ i1 f1 e1 _ => ⟨fun _ => U b σ1 (by omega) mm i1 f1 (by rw [e1]; exact R), fun _ => U m σ1 (by omega) mm i1 f1 (by rw [e1]; exact R)⟩)
      unfold f_X12_mend_u110
      rw [es]
      refine ⟨fun _ => ?_, fun q => ⟨fun _ => V (by omega), fun b0 => s_sizeOf (by omega) (by omega) (fun r3 _ _ => s_sizeOf (by omega) (by omega) (fun r4 _ _ => ⟨fun _ => U b σ (by omega) (by omega) i' f' R, fun _ => V (by omega)⟩))⟩⟩
      unfold f_X12_mend_u153
      exact k b σ i' f'
  -- the signs are read
  have A : ∀ (N : Nat) (m : Nat) (σ : ml_St), (m : Int) ≤ n → n - m < N → IM h told ts cap tb cl pr sz T σ → (∀ j, j < 215 → σ j = τ j) → (∀ i : Int, 0 ≤ i → i < m → 0 ≤ σ 253 i ∧ σ 253 i ≤ h - 2) → f_X12_mend_u40 Q (f_X12_mend_u104 Q) N σ w n m := by
    intro N
    induction N with
    | zero => intro m σ m1 hN; omega
    | succ N ih =>
      intro m σ m1 hN i' f' R
      unfold f_X12_mend_u40
      refine ⟨fun q => ?_, fun q => ⟨mt_I (by omega) (by omega), mt_I (by omega) (by omega), mt_I (by omega) (by omega), by omega, by omega, ?_⟩⟩
      · unfold f_X12_mend_u104
        have : (m : Int) = n := by omega
        rw [this] at R
        have := S (2 ^ n.toNat + 1) 0 (-2) σ (by omega) (by omega) (by omega) i' f' R
        exact ⟨_, this⟩
      have U : ∀ v, f_X12_mend_u73 Q (f_X12_mend_u40 Q (f_X12_mend_u104 Q) N) σ w n m m v := fun v => by
        unfold f_X12_mend_u73
        obtain ⟨p1, p2, p3, p4, p5⟩ := prs' m (by omega)
        refine ⟨by omega, by omega, fun σ1 s1 => ⟨mt_I (by omega) (by omega), mt_I (by omega) (by omega), mt_I (by omega) (by omega), mt_I (by omega) (by omega), by omega, by omega, ?_⟩⟩
        have et' := (i'.2.2.2.2 w w0 w1).1.2.2
        have e218 : σ1 218 (100 * w + 2 * (m : Int) + 1) = T w (2 * m + 1) := by
          rw [s1, ml_up_k (by omega), show 100 * w + 2 * (m : Int) + 1 = 100 * w + (2 * m + 1) by omega]
          exact et' _ (by omega) (by omega)
        rw [e218]
        refine fun _ => ⟨mt_I (by omega) (by omega), by omega, by omega, fun σ8 s8 => ⟨mt_I (by omega) (by omega), fun y e => ?_⟩⟩
        have e : y = ((m + 1 : Nat) : Int) := by omega
        subst e
        have f8 : ∀ j, j ≠ 252 → j ≠ 253 → σ8 j = σ j := fun j h1 h2 => by rw [s8, ml_up_k h2, s1, ml_up_k h1]
        refine ih (m + 1) σ8 (by omega) (by omega) (IM_kq (mt_kq_o (fun j hj => f8 j (by omega) (by omega)) (fun b _ _ => by rw [f8 215 (by omega) (by omega)])) i') (fun j hj => by rw [f8 j (by omega) (by omega), f' j hj]) (fun x x0 x1 => ?_)
        rw [s8]
        by_cases z : x = m
        · rw [z, ml_up_same]; omega
        · rw [ml_up_i z, s1, ml_up_k (by omega)]; exact R x x0 (by omega)
      exact fun _ => ⟨fun _ => U _, fun _ => U _⟩
  have := A 12 0 τ (by omega) (by omega) i (fun _ _ => rfl) (fun x x0 x1 => absurd x1 (by omega))
  exact this
theorem s_numberAt {Q : Int → ml_St → Prop} {x : Int} {σ : ml_St} (x0 : 0 ≤ x) (x1 : x < 40) (k : ∀ r, Q r σ) : f_X12_numberAt σ x Q := by
  have L : ∀ (N : Nat) (j y : Int), 0 ≤ j → j ≤ 4 → 4 - j < N → f_X12_numberAt_u4 Q (f_X12_numberAt_u35 Q) N σ x y j := by
    intro N
    induction N with
    | zero => intro j y j0 j1 hN; omega
    | succ N ih =>
      intro j y j0 j1 hN
      unfold f_X12_numberAt_u4
      refine ⟨fun _ => ?_, fun q => ⟨mt_I (by omega) (by omega), mt_I (by omega) (by omega), by omega, by omega, fun _ y5 _ => ⟨mt_I (by omega) (by omega), fun y6 e => ?_⟩⟩⟩
      · unfold f_X12_numberAt_u35; exact k y
      · subst e; exact ih (j + 1) y5 (by omega) (by omega) (by omega)
  unfold f_X12_numberAt f_X12_numberAt_u0
  exact ⟨5, L 5 0 0 (by omega) (by omega) (by omega)⟩
theorem m_back {Q : Int → ml_St → Prop} {h told ts cap n : Int} {tb cl pr sz : Int → Int} {T : Int → Int → Int} {τ : ml_St} (i : IM h told ts cap tb cl pr sz T τ) (k0 : ¬ (1 ≤ n ∧ n ≤ 8 ∧ 4 * n ≤ ts) → Q (-1) τ) (k1 : 1 ≤ n → n ≤ 8 → 4 * n ≤ ts → ∀ r σ, IM h told 0 cap tb cl pr sz T σ → (∀ j, j < 215 → σ j = τ j) → Q r σ) : f_X12_back τ n Q := by
  have t16 := i.1.2.2.2.2.2
  have t0 := i.1.2.2.2.2.1
  have h2 := i.1.2.2.1
  have h5 := i.1.2.2.2.1
  unfold f_X12_back f_X12_back_u0
  unfold f_X12_back_u22
  refine s_lies (fun n0 n1 _ => ⟨fun z => absurd z (by omega), fun _ => ⟨mt_I (by omega) (by omega), ?_⟩⟩) (fun q _ => ⟨fun _ => k0 (fun z => q ⟨z.1, z.2.1⟩), fun z => absurd rfl z⟩)
  rw [i.2.1.1]
  refine fun _ => ⟨fun q σ6 s6 => ⟨18, ?_⟩, fun q => k0 (fun z => q z.2.2)⟩
  have KK := k1 n0 n1 q
  have L : ∀ (N : Nat) (w y : Int) (σ : ml_St), 0 ≤ w → w ≤ told → told - w < N → IM h told 0 cap tb cl pr sz T σ → (∀ j, j < 215 → σ j = τ j) → f_X12_back_u33 Q (f_X12_back_u153 Q) N σ n y w := by
    intro N
    induction N with
    | zero => intro w y σ w0 w1 hN; omega
    | succ N ih =>
      intro w y σ w0 w1 hN i' f'
      have U : ∀ y σ, w < told → IM h told 0 cap tb cl pr sz T σ → (∀ j, j < 215 → σ j = τ j) → f_X12_back_u147 Q (f_X12_back_u33 Q (f_X12_back_u153 Q) N) σ n y w := fun y σ wt i' f' => by
        unfold f_X12_back_u147
        refine ⟨mt_I (by omega) (by omega), fun y1 e => ?_⟩
        subst e
        exact ih (w + 1) y σ (by omega) (by omega) (by omega) i' f'
      unfold f_X12_back_u33
      rw [i'.1.2.1]
      refine fun _ => ⟨fun _ => ?_, fun q2 => ?_⟩
      · unfold f_X12_back_u153; exact KK y σ i' f'
      have wt : w < told := by omega
      obtain ⟨c1, c2, c3, c4⟩ := IM_cv i' w0 wt
      have nn := (i'.2.2.2.2 w w0 wt).2.1
      refine s_isTooLong12 w0 (by omega) nn.1 nn.2 c3 c4 (fun big _ => ⟨fun z => absurd z (by omega), fun _ => U y σ wt i' f'⟩) (fun sml _ => ⟨fun _ => ?_, fun z => absurd rfl z⟩)
      have md : mt_md told (mt_mk h T sz) w := ⟨w0, wt, (mt_cv_23 c1).2 (by omega)⟩
      obtain ⟨g1, g2, g3, g4, g5⟩ := IM_w i' md
      refine s_copies h2 h5 ⟨w0, by omega⟩ ⟨by omega, by omega⟩ (by omega) i'.1.1 g1 (fun σ5 p5 w5 => ⟨10, ?_⟩)
      have I : ∀ (M : Nat) (j b : Int) (v : Int → Int) (σ : ml_St), 0 ≤ j → j ≤ n → n - j < M → IM h told 0 cap tb cl pr sz T σ → (∀ j, j < 215 → σ j = τ j) → mt_M h v → mt_mv h σ 60 v → f_X12_back_u65 Q (f_X12_back_u132 Q (f_X12_back_u33 Q (f_X12_back_u153 Q) N)) M σ n y w b j := by
        intro M
        induction M with
        | zero => intro j b v σ j0 j1 hM; omega
        | succ M ihj =>
          intro j b v σ j0 j1 hM i' f' hv wv
          have V : ∀ b' σ, j < n → IM h told 0 cap tb cl pr sz T σ → (∀ j, j < 215 → σ j = τ j) → mt_mv h σ 60 v → f_X12_back_u107 Q (f_X12_back_u65 Q (f_X12_back_u132 Q (f_X12_back_u33 Q (f_X12_back_u153 Q) N)) M) σ n y w j b' := fun b' σ jn i' f' wv => by
            unfold f_X12_back_u107
            obtain ⟨g1, g2, g3, g4, g5⟩ := IM_w i' md
            refine s_lays h2 h5 ⟨by omega, by omega⟩ ⟨w0, by omega⟩ ⟨by omega, by omega⟩ i'.1.1 hv g2 wv g1 (by omega) (by omega) (fun σ1 p1 w1 => ?_)
            have kq1 := mt_kq_mf (c := 62) (by omega) p1
            have i1 := IM_kq kq1 i'
            refine s_copies h2 h5 ⟨by omega, by omega⟩ ⟨by omega, by omega⟩ (by omega) i1.1.1 w1 (fun σ2 p2 w2 => ⟨mt_I (by omega) (by omega), fun y3 e => ?_⟩)
            have kq2 := mt_kq_mf (c := 60) (by omega) p2
            subst e
            exact ihj (j + 1) b' _ σ2 (by omega) (by omega) (by omega) (IM_kq kq2 i1) (fun x hx => by rw [kq2.2.2.2 x hx, kq1.2.2.2 x hx, f' x hx]) (mt_both_M h5 hv g2) w2
          unfold f_X12_back_u65
          unfold f_X12_back_u106
          refine ⟨fun _ => ?_, fun q3 => ⟨fun _ => V _ σ (by omega) i' f' wv, fun _ => ⟨by omega, by omega, fun _ => s_closing h2 h5 ⟨by omega, by omega⟩ i'.1.1 hv i'.2.2.1.2.2.2 (fun e e0 e1 => (wv.1 e e0 e1).1) i'.2.2.1.2.2.1 (fun σ4 f4 _ => s_numberAt j0 (by omega) (fun r _ => ?_))⟩⟩⟩
          · unfold f_X12_back_u132 f_X12_back_u145
            exact ⟨fun _ y1 _ => U y1 σ wt i' f', fun _ y1 _ => U y1 σ wt i' f'⟩
          · have i4 := IM_kq (mt_kq_234 f4) i'
            have f4' : ∀ j, j < 215 → σ4 j = τ j := fun x hx => by rw [f4 x (by omega), f' x hx]
            have w4 := mt_mv_o (fun x x0 x1 => f4 x (by omega)) wv
            exact ⟨fun _ => V _ σ4 (by omega) i4 f4' w4, fun _ => V _ σ4 (by omega) i4 f4' w4⟩
      have kq5 := mt_kq_mf (c := 60) (by omega) p5
      exact I 10 0 1 _ σ5 (by omega) (by omega) (by omega) (IM_kq kq5 i') (fun x hx => by rw [kq5.2.2.2 x hx, f' x hx]) g2 w5
  have i6 : IM h told 0 cap tb cl pr sz T σ6 := IM_B0 (fun j hj => by rw [s6, ml_up_k hj]) (fun x hx => by rw [s6, ml_up_i hx]) (by rw [s6, ml_up_same]) i
  exact L 18 0 0 σ6 (by omega) t0 (by omega) i6 (fun j hj => by rw [s6, ml_up_k (by omega)])
/-! the model: writes, writesAgain, writesOut -/
/-- writing: what may change -/
theorem mt_I2 {x : Int} (h0 : -2000000 ≤ x) (h1 : x < 2000000) : I32 x := ⟨by omega, by omega⟩
def mq_g (σ σ' : ml_St) : Prop := (∀ j, j ≠ 215 → j ≠ 254 → j ≠ 255 → j ≠ 256 → σ' j = σ j) ∧ (∀ b, b ≠ 19 → b ≠ 20 → b ≠ 61 → σ' 215 b = σ 215 b)
/-- the model's sign for the class's -/
def mq_iv (v : Int) : Int := 2 * (v / 2) + (1 - v % 2)
/-- other words' rows stay -/
def mq_ro (w : Int) (σ σ' : ml_St) : Prop := ∀ q, (q < 2000 * w ∨ 2000 * w + 2000 ≤ q) → σ' 254 q = σ 254 q
def mq_rw (w P : Int) (E : Int → Int) (σ : ml_St) : Prop := σ 215 61 = min 2001 P ∧ ∀ j, 0 ≤ j → j < P → j < 2000 → σ 254 (2000 * w + j) = mq_iv (E j)
theorem mq_rw_c {w P : Int} {E E' : Int → Int} {σ σ' : ml_St} (e1 : σ' 215 61 = σ 215 61) (e2 : σ' 254 = σ 254) (ee : ∀ j, 0 ≤ j → j < P → E' j = E j) (r : mq_rw w P E σ) : mq_rw w P E' σ' := ⟨by rw [e1]; exact r.1, fun j j0 j1 j2 => by rw [e2, ee j j0 j1]; exact r.2 j j0 j1 j2⟩
theorem mt_wre_b {s P : Int} {E : Int → Int} {j : Int} (j1 : j < P) : mt_wre s P E j = E j := by
  unfold mt_wre
  by_cases z : j < s
  · rw [if_pos z]
  · rw [if_neg z, Int.emod_eq_of_lt (by omega) (by omega), show s + (j - s) = j by omega]
theorem mq_iv_r {h v : Int} (h5 : h ≤ 5) (v0 : 0 ≤ v) (v1 : v ≤ 2 * (h - 2) + 1) : 0 ≤ mq_iv v ∧ mq_iv v < 128 := by unfold mq_iv; omega
theorem s_writes {Q : ml_St → Prop} {w v P h : Int} {E : Int → Int} {σ : ml_St} (h5 : h ≤ 5) (w0 : 0 ≤ w) (w1 : w < 16) (P0 : 0 ≤ P) (r : mq_rw w P E σ) (mv : mw_v h E) (hv : P < 2000 → v = mq_iv (E P)) (k : ∀ σ', (∀ j, j ≠ 215 → j ≠ 254 → σ' j = σ j) → (∀ b, b ≠ 61 → σ' 215 b = σ 215 b) → mq_ro w σ σ' → mq_rw w (P + 1) E σ' → Q σ') : f_X12_writes σ w v Q := by
  obtain ⟨e, r2⟩ := r
  have U : ∀ σ1 : ml_St, (∀ j, j ≠ 215 → j ≠ 254 → σ1 j = σ j) → σ1 215 = σ 215 → mq_ro w σ σ1 → (∀ j, 0 ≤ j → j < P + 1 → j < 2000 → σ1 254 (2000 * w + j) = mq_iv (E j)) → f_X12_writes_u27 Q σ1 := fun σ1 f1 b1 ro rr => by
    unfold f_X12_writes_u27 f_X12_writes_u51
    rw [b1, e]
    refine fun _ => ⟨fun c _ σ2 s2 => ?_, fun c _ => ⟨mt_I2 (by omega) (by omega), fun σ2 s2 => ?_⟩⟩
    · exact k σ2 (fun j h1 h2 => by rw [s2, ml_up_k h1, f1 j h1 h2]) (fun b hb => by rw [s2, ml_up_i hb, b1]) (fun q hq => by rw [s2, ml_up_k (by omega)]; exact ro q hq) ⟨by rw [s2, ml_up_same]; omega, fun j j0 j1 j2 => by rw [s2, ml_up_k (by omega)]; exact rr j j0 j1 j2⟩
    · exact k σ2 (fun j h1 h2 => by rw [s2, ml_up_k h1, f1 j h1 h2]) (fun b hb => by rw [s2, ml_up_i hb, b1]) (fun q hq => by rw [s2, ml_up_k (by omega)]; exact ro q hq) ⟨by rw [s2, ml_up_same]; omega, fun j j0 j1 j2 => by rw [s2, ml_up_k (by omega)]; exact rr j j0 j1 j2⟩
  unfold f_X12_writes f_X12_writes_u0
  rw [e]
  refine fun _ => ⟨fun c => U σ (fun _ _ _ => rfl) rfl (fun _ _ => rfl) (fun j j0 j1 j2 => r2 j j0 (by omega) j2), fun c => ⟨mt_I2 (by omega) (by omega), fun _ => ⟨mt_I2 (by omega) (by omega), by omega, by omega, fun σ6 s6 => ?_⟩⟩⟩
  have mP : min 2001 P = P := by omega
  have vr := mq_iv_r h5 (mv P).1 (mv P).2
  rw [mP, hv (by omega), mb_i2b_s vr.1 vr.2] at s6
  refine U σ6 (fun j h1 h2 => by rw [s6, ml_up_k h2]) (by rw [s6, ml_up_k (by omega)]) (fun q hq => by rw [s6, ml_up_i (by omega)]) (fun j j0 j1 j2 => ?_)
  rw [s6]
  by_cases z : j = P
  · rw [z, ml_up_same]
  · rw [ml_up_i (by omega)]; exact r2 j j0 (by omega) j2
theorem s_writesAgain {Q : ml_St → Prop} {w s tm A l h : Int} {E : Int → Int} {σ0 : ml_St} (h5 : h ≤ 5) (w0 : 0 ≤ w) (w1 : w < 16) (A0 : 0 ≤ A) (l0 : 0 ≤ l) (es : s = min 2001 A) (r : mq_rw w (A + l) E σ0) (mv : mw_v h E) (t0 : 0 ≤ tm) (t1 : tm < 1000000000) (k : ∀ σ', (∀ j, j ≠ 215 → j ≠ 254 → σ' j = σ0 j) → (∀ b, b ≠ 61 → σ' 215 b = σ0 215 b) → mq_ro w σ0 σ' → mq_rw w (A + tm * l) (mt_wre A (A + l) E) σ' → Q σ') : f_X12_writesAgain σ0 w s tm Q := by
  have eq := r.1
  have mv' : mw_v h (mt_wre A (A + l) E) := fun j => by unfold mt_wre; split <;> exact mv _
  have el : A + l - A = l := by omega
  have O : ∀ (N : Nat) (x : Int) (σ : ml_St), 1 ≤ x → x ≤ max tm 1 → tm ≠ 0 → 2001 - σ 215 61 < N → (∀ j, j ≠ 215 → j ≠ 254 → σ j = σ0 j) → (∀ b, b ≠ 61 → σ 215 b = σ0 215 b) → mq_ro w σ0 σ → mq_rw w (A + x * l) (mt_wre A (A + l) E) σ → f_X12_writesAgain_u19 Q (f_X12_writesAgain_u103 Q) N σ w s tm (min 2001 (A + l)) x := by
    intro N
    induction N with
    | zero => intro x σ x0 x1 tn hN f fb _ h; have := h.1; omega
    | succ N ih =>
      intro x σ x0 x1 tn hN f fb ro hr
      have h := hr.1
      have xl : 1 * l ≤ x * l := Int.mul_le_mul_of_nonneg_right x0 l0
      have xt : x * l ≤ tm * l := Int.mul_le_mul_of_nonneg_right (by omega) l0
      have DN : (∀ j, j < A + tm * l → j < 2000 → j < A + x * l) → min 2001 (A + x * l) = min 2001 (A + tm * l) → f_X12_writesAgain_u103 Q σ := fun d e => by
        unfold f_X12_writesAgain_u103
        exact k σ f fb ro ⟨by rw [h, e], fun j j0 j1 j2 => hr.2 j j0 (d j j1 j2) j2⟩
      unfold f_X12_writesAgain_u19
      rw [h]
      refine ⟨fun c => DN (fun j j1 _ => by rw [show x = tm by omega]; exact j1) (by rw [show x = tm by omega]), fun c => fun _ => ⟨fun c2 => DN (fun j _ _ => by omega) (by omega), fun c2 => ⟨fun c3 => ?_, fun c3 => ⟨(l + 2).toNat, ?_⟩⟩⟩⟩
      · have : l = 0 := by omega
        refine DN (fun j j1 _ => ?_) ?_
        · rw [this, Int.mul_zero] at *; exact j1
        · rw [this]; simp
      have sA : s = A := by omega
      have I : ∀ (M : Nat) (y : Int) (σ : ml_St), s ≤ y → y ≤ s + l → s + l - y < M → (∀ j, j ≠ 215 → j ≠ 254 → σ j = σ0 j) → (∀ b, b ≠ 61 → σ 215 b = σ0 215 b) → mq_ro w σ0 σ → mq_rw w (A + x * l + (y - s)) (mt_wre A (A + l) E) σ → f_X12_writesAgain_u44 Q (f_X12_writesAgain_u97 Q (f_X12_writesAgain_u19 Q (f_X12_writesAgain_u103 Q) N)) M σ w s tm (min 2001 (A + l)) x y := by
        intro M
        induction M with
        | zero => intro y σ y0 y1 hM; omega
        | succ M ihy =>
          intro y σ y0 y1 hM f fb ro hr
          have h := hr.1
          have xs : (x + 1) * l = x * l + l := by rw [Int.add_mul, Int.one_mul]
          have DO : (∀ j, j < A + x * l + l → j < 2000 → j < A + x * l + (y - s)) → min 2001 (A + x * l + (y - s)) = min 2001 (A + x * l + l) → f_X12_writesAgain_u97 Q (f_X12_writesAgain_u19 Q (f_X12_writesAgain_u103 Q) N) σ w s tm (min 2001 (A + l)) x := fun d e => by
            unfold f_X12_writesAgain_u97
            refine ⟨⟨by omega, by omega⟩, fun y1 e1 => ?_⟩
            subst e1
            exact ih (x + 1) σ (by omega) (by omega) tn (by omega) f fb ro ⟨by rw [h, xs]; omega, fun j j0 j1 j2 => hr.2 j j0 (d j (by omega) j2) j2⟩
          have W : ∀ v, (A + x * l + (y - s) < 2000 → v = mq_iv (mt_wre A (A + l) E (A + x * l + (y - s)))) → y < s + l → f_X12_writesAgain_u88 Q (f_X12_writesAgain_u44 Q (f_X12_writesAgain_u97 Q (f_X12_writesAgain_u19 Q (f_X12_writesAgain_u103 Q) N)) M) σ w s tm (min 2001 (A + l)) x y w v := fun v hv yl => by
            unfold f_X12_writesAgain_u88
            refine s_writes h5 w0 w1 (by omega) hr mv' hv (fun σ1 g1 g2 g3 g4 => ⟨mt_I2 (by omega) (by omega), fun y2 e2 => ?_⟩)
            subst e2
            exact ihy (y + 1) σ1 (by omega) (by omega) (by omega) (fun j h1 h2 => by rw [g1 j h1 h2, f j h1 h2]) (fun b hb => by rw [g2 b hb, fb b hb]) (fun q hq => by rw [g3 q hq, ro q hq]) (by rw [show A + x * l + (y + 1 - s) = A + x * l + (y - s) + 1 by omega]; exact g4)
          unfold f_X12_writesAgain_u44
          rw [h]
          refine ⟨fun _ => DO (fun j _ _ => by omega) (by omega), fun q => fun _ => ⟨fun _ => DO (fun j _ _ => by omega) (by omega), fun _ => ⟨fun c5 => W _ (fun z => by omega) (by omega), fun c5 => ⟨mt_I2 (by omega) (by omega), mt_I2 (by omega) (by omega), by omega, by omega, fun _ => W _ (fun z => ?_) (by omega)⟩⟩⟩⟩
          rw [hr.2 y (by omega) (by omega) (by omega), mt_wre_b (by omega)]
          unfold mt_wre
          rw [if_neg (by omega), el, show A + x * l + (y - s) - A = (y - s) + l * x by rw [Int.mul_comm l x]; omega, Int.add_mul_emod_self_left, Int.emod_eq_of_lt (by omega) (by omega), show A + (y - s) = y by omega]
      exact I _ s σ (by omega) (by omega) (by omega) f fb ro (by rw [Int.sub_self, Int.add_zero]; exact hr)
  unfold f_X12_writesAgain f_X12_writesAgain_u0
  rw [eq]
  refine fun _ y2 e2 => ⟨fun tn => ⟨2003, ?_⟩, fun z σ4 s4 => ?_⟩
  · rw [e2]
    exact O 2003 1 σ0 (by omega) (by omega) tn (by omega) (fun _ _ _ => rfl) (fun _ _ => rfl) (fun _ _ => rfl) (by rw [Int.one_mul]; exact mq_rw_c rfl rfl (fun j _ j1 => mt_wre_b j1) r)
  · refine k σ4 (fun j h1 _ => by rw [s4, ml_up_k h1]) (fun b hb => by rw [s4, ml_up_i hb]) (fun q _ => by rw [s4, ml_up_k (by omega)]) ⟨?_, fun j j0 j1 j2 => ?_⟩
    · rw [s4, ml_up_same, z, es, Int.zero_mul]; omega
    · rw [z, Int.zero_mul, Int.add_zero] at j1
      rw [s4, ml_up_k (by omega), r.2 j j0 (by omega) j2, mt_wre_b (by omega)]
/-- what stands below depth d -/
def mq_lo (A S U : Int → Int) (d : Int) : Prop := ∀ k, 0 ≤ k → k < d → 0 ≤ S k ∧ 0 ≤ U k ∧ U (k + 1) = U k + S k ∧ A k = min 2001 (U (k + 1))
theorem s_writesOut {Q : ml_St → Prop} {τ0 : ml_St} {w n h : Int} {cx : Int → Int} {ex : Int → Int → Int} (h2 : 2 ≤ h) (w0 : 0 ≤ w) (w1 : w < 16) (h5 : h ≤ 5) (n0 : 0 ≤ n) (n1 : n ≤ 100) (en : τ0 219 w = n) (tI : ∀ j, 0 ≤ j → j < n → ml_I8 (τ0 218 (100 * w + j))) (g : mt_gr (fun j => τ0 218 (100 * w + j)) n h w (n.toNat + 1) 0 0 1 = 0) (wc : ∀ v, 0 ≤ v → v < w → 0 ≤ cx v ∧ τ0 255 v = min 2001 (cx v) ∧ (∀ j, 0 ≤ j → j < cx v → j < 2000 → τ0 254 (2000 * v + j) = mq_iv (ex v j)) ∧ mw_v h (ex v))
    (k : ∀ τ, mq_g τ0 τ → (∀ v, v ≠ w → τ 255 v = τ0 255 v) → τ 255 w = min 2001 (mt_ctw (fun j => τ0 218 (100 * w + j)) n mt_one cx) → mq_ro w τ0 τ → (∀ j, 0 ≤ j → j < mt_ctw (fun j => τ0 218 (100 * w + j)) n mt_one cx → j < 2000 → τ 254 (2000 * w + j) = mq_iv (mt_wrw (fun j => τ0 218 (100 * w + j)) n cx ex j)) → Q τ) : f_X12_writesOut τ0 w Q := by
  generalize ht : (fun j => τ0 218 (100 * w + j)) = t at *
  have htj : ∀ j, τ0 218 (100 * w + j) = t j := fun j => by rw [← ht]
  have uc := fun (j : Int) (hj : 0 ≤ j) => mt_u_c (t := t) (n := n) (i := j) (fun c => by rw [← htj]; exact tI j hj c)
  have L : ∀ (F N : Nat) (i d need : Int) (S U E : Int → Int) (τ : ml_St), mq_ro w τ0 τ → mw_v h E → mt_wr t n cx ex F i d U (U d + S d) E = mt_wrw t n cx ex → mq_g τ0 τ → τ 255 = τ0 255 → τ 215 20 = w → τ 215 19 = i → 0 ≤ i → i ≤ n → 0 ≤ d → d ≤ 6 → n - i < F → n - i + 1 < N → mq_lo (τ 256) S U d → U 0 = 0 → 0 ≤ U d → 0 ≤ S d → mq_rw w (U d + S d) E τ → mt_gr t n h w F i d need = 0 → mt_ct t n mt_one cx F i d S = mt_ctw t n mt_one cx → f_X12_writesOut_u24 Q (f_X12_writesOut_u254 Q) N τ w d := by
    intro F
    induction F with
    | zero => intro N i d need S U E τ ro mv hy f e255 e20 e19 i0 i1 d0 d6 hF; omega
    | succ F ih =>
      -- behind an item
      have AF : ∀ (N : Nat) (i d : Int) (S U E : Int → Int) (a l : Int) (τ : ml_St), mq_ro w τ0 τ → mw_v h E → mt_wr t n cx ex F (mt_tn t n i) d U (U d + a + mt_tm t n i * l) (mt_wre (U d + a) (U d + a + l) E) = mt_wrw t n cx ex → mq_g τ0 τ → τ 255 = τ0 255 → τ 215 20 = w → τ 215 19 = i → 0 ≤ i → i ≤ n → 0 ≤ d → d ≤ 6 → mt_tf t n i = 0 → n - i < F → n - i + 1 < N → mq_lo (τ 256) S U d → U 0 = 0 → 0 ≤ U d → 0 ≤ a → 0 ≤ l → τ 256 d = min 2001 (U d + a) → mq_rw w (U d + a + l) E τ → mt_gr t n h w F (mt_tn t n i) d 0 = 0 → mt_ct t n mt_one cx F (mt_tn t n i) d (mt_st S d (a + mt_tm t n i * l)) = mt_ctw t n mt_one cx → f_X12_writesOut_u24 Q (f_X12_writesOut_u254 Q) N τ w d := by
        intro N i d S U E a l τ ro mv hy f e255 e20 e19 i0 i1 d0 d6 gt hF hN lo U0 Ud a0 l0 eA q61 g' hx
        have e61 := q61.1
        have mv' : mw_v h (mt_wre (U d + a) (U d + a + l) E) := fun j => by unfold mt_wre; split <;> exact mv _
        have sd : mt_st S d (a + mt_tm t n i * l) d = a + mt_tm t n i * l := if_pos rfl
        have rt := mt_tm_r (t := t) (n := n) (i := i) i0 gt
        have rn := mt_tn_r (t := t) (n := n) (i := i) i1
        have lo' : ∀ A : Int → Int, (∀ k, k < d → A k = τ 256 k) → mq_lo A (mt_st S d (a + mt_tm t n i * l)) U d := fun A hA k k0 k1 => by unfold mt_st; rw [if_neg (by omega), hA k k1]; exact lo k k0 k1
        have tl := Int.mul_nonneg rt.1 l0
        by_cases s : i < n ∧ t i = 42
        · obtain ⟨N, rfl⟩ : ∃ N', N = N' + 1 := ⟨N - 1, by omega⟩
          obtain ⟨m, m1, m2, q1, q2, q3, q4, q5⟩ := mt_tf_0 i0 gt s
          have u42 : mt_u t n i = 42 := by
            have := uc i i0
            have e : mt_c t n i = 42 := by unfold mt_c; rw [if_pos s.1]; exact s.2
            omega
          have f218 : ∀ j, τ 218 (100 * w + j) = t j := fun j => by rw [f.1 218 (by omega) (by omega) (by omega) (by omega), htj]
          have f219 : τ 219 w = n := by rw [f.1 219 (by omega) (by omega) (by omega) (by omega), en]
          unfold f_X12_writesOut_u24
          rw [e19, f219]
          refine fun _ => ⟨w0, w1, fun _ => ⟨fun c => absurd c (by omega), fun _ => ?_⟩⟩
          refine s_read w0 w1 i0 n1 e19 e20 f219 ?_
          rw [show (fun j => τ 218 (100 * w + j)) = t by funext j; exact f218 j, u42, e19]
          refine fun _ _ => ⟨mt_I (by omega) (by omega), fun σ7 g7 => ⟨fun c => absurd rfl c, fun _ => ?_⟩⟩
          have k7 : ∀ j, j ≠ 215 → σ7 j = τ j := fun j hj => by rw [g7, ml_up_k hj]
          have b7 : ∀ b, b ≠ 19 → σ7 215 b = τ 215 b := fun b hb => by rw [g7, ml_up_i hb]
          refine s_readNumber (i := i + 1) (m := m) w0 w1 (by omega) n1 (by rw [b7 20 (by omega), e20]) (by rw [g7, ml_up_same]) (by rw [k7 219 (by omega), f219]) m2 (by omega) (fun j j0 j1 => by rw [k7 218 (by omega), f218, ← htj]; exact tI j j0 j1) (fun k hk => by rw [k7 218 (by omega), f218]; exact q4 k hk) (fun hk => by rw [k7 218 (by omega), f218]; exact q5 hk) ?_
          rw [show (fun j => σ7 218 (100 * w + j)) = t by funext j; rw [k7 218 (by omega)]; exact f218 j, ← q3, g7, ml_up_up, ← q1]
          have k8 : ∀ j, j ≠ 215 → ml_up τ 215 19 (mt_tn t n i) j = τ j := fun j hj => ml_up_k hj
          refine fun _ => ⟨d0, by omega, ?_⟩
          rw [k8 256 (by omega)]
          refine fun _ => s_writesAgain (A := U d + a) (l := l) h5 w0 w1 (by omega) l0 eA (mq_rw_c (by rw [ml_up_i (by omega)]) (k8 254 (by omega)) (fun _ _ _ => rfl) q61) mv rt.1 rt.2 (fun σ23 h1 h2 h4 h3 => ?_)
          unfold f_X12_writesOut_u251
          have k9 : ∀ j, j ≠ 215 → j ≠ 254 → σ23 j = τ j := fun j p1 p2 => by rw [h1 j p1 p2, k8 j p1]
          refine ih N (mt_tn t n i) d 0 _ U _ σ23 (fun q hq => by rw [h4 q hq, k8 254 (by omega)]; exact ro q hq) mv' (by rw [sd, ← Int.add_assoc]; exact hy) ⟨fun j p1 p2 p3 p4 => by rw [k9 j p1 p2, f.1 j p1 p2 p3 p4], fun b p1 p2 p3 => by rw [h2 b p3, ml_up_i p1, f.2 b p1 p2 p3]⟩ (by rw [k9 255 (by omega) (by omega), e255]) (by rw [h2 20 (by omega), ml_up_i (by omega), e20]) (by rw [h2 19 (by omega), ml_up_same]) (by omega) rn.2 d0 d6 (by omega) (by omega) (lo' _ (fun k _ => by rw [k9 256 (by omega) (by omega)])) U0 Ud ?_ ?_ g' hx
          · rw [sd]; omega
          · rw [sd, ← Int.add_assoc]; exact h3
        · have q1 : mt_tn t n i = i := by unfold mt_tn; rw [if_neg s]
          have q3 : mt_tm t n i = 1 := by unfold mt_tm; rw [if_neg s]
          rw [q1] at g' hx hy
          refine ih N i d 0 _ U _ τ ro mv' (by rw [sd, ← Int.add_assoc]; exact hy) f e255 e20 e19 i0 i1 d0 d6 hF hN (lo' _ (fun k _ => rfl)) U0 Ud ?_ ?_ g' hx
          · rw [sd]; omega
          · rw [sd, q3, Int.one_mul, ← Int.add_assoc]; exact mq_rw_c rfl rfl (fun j _ j1 => mt_wre_b j1) q61
      intro N i d need S U E τ ro mv hy f e255 e20 e19 i0 i1 d0 d6 hF hN lo U0 Ud Sd q61 g hx
      have e61 := q61.1
      obtain ⟨N, rfl⟩ : ∃ N', N = N' + 1 := ⟨N - 1, by omega⟩
      have f218 : ∀ j, τ 218 (100 * w + j) = t j := fun j => by rw [f.1 218 (by omega) (by omega) (by omega) (by omega), htj]
      have f219 : τ 219 w = n := by rw [f.1 219 (by omega) (by omega) (by omega) (by omega), en]
      unfold mt_ct at hx
      unfold mt_wr at hy
      unfold f_X12_writesOut_u24
      rw [e19, f219]
      refine fun _ => ⟨w0, w1, fun _ => ⟨fun c => ?_, fun c => ?_⟩⟩
      · rw [if_pos c] at hx hy
        rcases mt_gr_c n0 i0 g with z | z | z | z | z
        · have d00 : d = 0 := z.2.2
          subst d00
          unfold f_X12_writesOut_u254
          refine fun _ => ⟨w0, w1, fun σ2 g2 => k σ2 ⟨fun j p1 p2 p3 p4 => by rw [g2, ml_up_k p3, f.1 j p1 p2 p3 p4], fun b p1 p2 p3 => by rw [g2, ml_up_k (by omega), f.2 b p1 p2 p3]⟩ (fun v hv => by rw [g2, ml_up_i hv, e255]) ?_ (fun q hq => by rw [g2, ml_up_k (by omega)]; exact ro q hq) (fun j j0 j1 j2 => ?_)⟩
          · rw [g2, ml_up_same, e61, ← hx, U0, Int.zero_add]
          · rw [← hx] at j1
            rw [g2, ml_up_k (by omega), ← hy]; exact q61.2 j j0 (by omega) j2
        all_goals omega
      rw [if_neg c] at hx hy
      refine s_read w0 w1 i0 n1 e19 e20 f219 ?_
      have ui := uc i i0
      have ci : mt_c t n i = t i := by unfold mt_c; rw [if_pos (by omega)]
      have uti : (t i = 40 ∨ t i = 41 ∨ t i = 120 ∨ t i = 117 ∨ (65 ≤ t i ∧ t i < 81)) ∧ mt_u t n i = t i := by
        rcases mt_gr_c n0 i0 g with z | z | z | z | z <;> constructor <;> omega
      obtain ⟨tk, eu⟩ := uti
      rw [show (fun j => τ 218 (100 * w + j)) = t by funext j; exact f218 j, eu, e19]
      refine fun _ _ => ⟨mt_I (by omega) (by omega), fun σ7 g7 => ?_⟩
      have k7 : ∀ j, j ≠ 215 → σ7 j = τ j := fun j hj => by rw [g7, ml_up_k hj]
      have b7 : ∀ b, b ≠ 19 → σ7 215 b = τ 215 b := fun b hb => by rw [g7, ml_up_i hb]
      have r7 : σ7 215 19 = i + 1 := by rw [g7, ml_up_same]
      have q7 : σ7 215 61 = min 2001 (U d + S d) := by rw [b7 61 (by omega), e61]
      have r7w : mq_rw w (U d + S d) E σ7 := mq_rw_c (b7 61 (by omega)) (k7 254 (by omega)) (fun _ _ _ => rfl) q61
      have ro7 : mq_ro w τ0 σ7 := fun q hq => by rw [k7 254 (by omega)]; exact ro q hq
      have f7 : mq_g τ0 σ7 := ⟨fun j p1 p2 p3 p4 => by rw [k7 j p1, f.1 j p1 p2 p3 p4], fun b p1 p2 p3 => by rw [b7 b p1, f.2 b p1 p2 p3]⟩
      have lo7 : ∀ A : Int → Int, (∀ k, k < d → A k = τ 256 k) → mq_lo A S U d := fun A hA k k0 k1 => by rw [hA k k1]; exact lo k k0 k1
      have SGN : (t i = 120 ∨ t i = 117) → f_X12_writesOut_u136 Q (f_X12_writesOut_u24 Q (f_X12_writesOut_u254 Q) N) σ7 w d (t i) := by
        intro hc
        rcases mt_gr_c n0 i0 g with z | z | z | z | z
        · omega
        · omega
        · omega
        · obtain ⟨z1, z2, z3, z4, z5, z6, z7, z8⟩ := z
          rw [if_neg (by omega), if_neg (by omega), if_pos hc] at hx hy
          have mvS : mw_v h (mt_wra (U d + S d) E (fun _ => mt_wsg t i)) := fun j => by
            unfold mt_wra
            split
            · exact mv j
            · show 0 ≤ mt_wsg t i ∧ mt_wsg t i ≤ _; unfold mt_wsg; split <;> omega
          unfold f_X12_writesOut_u136
          rw [q7]
          refine fun _ => ⟨d0, by omega, fun σ2 g2 => ?_⟩
          have k2 : ∀ j, j ≠ 256 → σ2 j = σ7 j := fun j hj => by rw [g2, ml_up_k hj]
          refine s_read (i := i + 1) w0 w1 (by omega) n1 (by rw [k2 215 (by omega), r7]) (by rw [k2 215 (by omega), b7 20 (by omega), e20]) (by rw [k2 219 (by omega), k7 219 (by omega), f219]) ?_
          have ud := uc (i + 1) (by omega)
          have cd : mt_c t n (i + 1) = t (i + 1) := by unfold mt_c; rw [if_pos (by omega)]
          have ed : mt_u t n (i + 1) = t (i + 1) := by omega
          rw [show (fun j => σ2 218 (100 * w + j)) = t by funext j; rw [k2 218 (by omega), k7 218 (by omega)]; exact f218 j, ed]
          have W : ∀ v c, 0 ≤ v → v ≤ 100 → (c = 0 ∨ c = 1) → v + c = mq_iv (mt_wsg t i) → f_X12_writesOut_u168 Q (f_X12_writesOut_u24 Q (f_X12_writesOut_u254 Q) N) σ2 w d w v c := fun v c v0 v1 c01 vc => by
            unfold f_X12_writesOut_u168
            refine ⟨mt_I (by omega) (by omega), s_writes (P := U d + S d) (E := mt_wra (U d + S d) E (fun _ => mt_wsg t i)) h5 w0 w1 (by omega) (mq_rw_c (by rw [k2 215 (by omega)]) (k2 254 (by omega)) (fun j _ j1 => by unfold mt_wra; rw [if_pos j1]) r7w) mvS (fun _ => by unfold mt_wra; rw [if_neg (by omega)]; exact vc) (fun σ3 h1 h2 h4 h3 => ?_)⟩
            rw [h2 19 (by omega), k2 215 (by omega), r7]
            refine fun _ => ⟨mt_I (by omega) (by omega), fun σ5 s5 => ?_⟩
            unfold f_X12_writesOut_u251
            have k5 : ∀ j, j ≠ 215 → j ≠ 254 → j ≠ 256 → σ5 j = τ j := fun j p1 p2 p3 => by rw [s5, ml_up_k p1, h1 j p1 p2, k2 j p3, k7 j p1]
            have b5 : ∀ b, b ≠ 19 → b ≠ 61 → σ5 215 b = τ 215 b := fun b p1 p2 => by rw [s5, ml_up_i p1, h2 b p2, k2 215 (by omega), b7 b p1]
            have e256 : σ5 256 = ml_up σ7 256 d (min 2001 (U d + S d)) 256 := by rw [s5, ml_up_k (by omega), h1 256 (by omega) (by omega), g2]
            have one : mt_one (t i) = 1 := rfl
            refine AF N (i + 2) d S U _ (S d) 1 σ5 (fun q hq => by rw [s5, ml_up_k (by omega), h4 q hq, k2 254 (by omega)]; exact ro7 q hq) mvS hy ⟨fun j p1 p2 p3 p4 => by rw [k5 j p1 p2 p4, f.1 j p1 p2 p3 p4], fun b p1 p2 p3 => by rw [b5 b p1 p3, f.2 b p1 p2 p3]⟩ (by rw [k5 255 (by omega) (by omega) (by omega), e255]) (by rw [b5 20 (by omega) (by omega), e20]) (by rw [s5, ml_up_same]; omega) (by omega) (by omega) d0 d6 z7 (by omega) (by omega) (lo7 _ (fun k hk => by rw [e256, ml_up_i (by omega), k7 256 (by omega)])) U0 Ud Sd (by omega) (by rw [e256, ml_up_same]) (mq_rw_c (by rw [s5, ml_up_i (by omega)]) (by rw [s5, ml_up_k (by omega)]) (fun _ _ _ => rfl) h3) z8 (by rw [one] at hx; exact hx)
          exact fun _ => ⟨mt_I (by omega) (by omega), mt_I (by omega) (by omega), fun y => W _ 0 (by omega) (by omega) (Or.inl rfl) (by unfold mq_iv mt_wsg; rw [if_pos (by omega)]; omega), fun y => W _ 1 (by omega) (by omega) (Or.inr rfl) (by unfold mq_iv mt_wsg; rw [if_neg (by omega)]; omega)⟩
        · omega
      refine ⟨fun _ => ⟨fun c40 => ⟨fun c41 => ⟨fun c120 => SGN (Or.inl c120), fun c120 => ⟨fun c117 => ?_, fun c117 => SGN (Or.inr c117)⟩⟩, fun c41 => ?_⟩, fun c40 => ?_⟩, fun c42 => absurd c42 (by omega)⟩
      · -- a letter
        rcases mt_gr_c n0 i0 g with z | z | z | z | z
        · omega
        · omega
        · omega
        · omega
        · obtain ⟨z1, z2, z3, z4, z5, z6⟩ := z
          rw [if_neg (by omega), if_neg (by omega), if_neg (by omega)] at hx hy
          obtain ⟨w1', w2', w3', w4'⟩ := wc (t i - 65) (by omega) z4
          have mvL : mw_v h (mt_wra (U d + S d) E (ex (t i - 65))) := fun j => by
            unfold mt_wra
            split
            · exact mv j
            · exact w4' _
          rw [q7]
          refine fun _ => ⟨d0, by omega, fun σ14 g14 => ⟨2010, ?_⟩⟩
          have I : ∀ (M : Nat) (y : Int) (σ : ml_St), 0 ≤ y → y ≤ min 2001 (cx (t i - 65)) → min 2001 (cx (t i - 65)) - y < M → (∀ j, j ≠ 215 → j ≠ 254 → σ j = σ14 j) → (∀ b, b ≠ 61 → σ 215 b = σ14 215 b) → mq_ro w τ0 σ → mq_rw w (U d + S d + y) (mt_wra (U d + S d) E (ex (t i - 65))) σ → f_X12_writesOut_u198 Q (f_X12_writesOut_u251 Q (f_X12_writesOut_u24 Q (f_X12_writesOut_u254 Q) N)) M σ w d (t i) y := by
            intro M
            induction M with
            | zero => intro y σ y0 y1 hM; omega
            | succ M ihy =>
              intro y σ y0 y1 hM p1 p2 p4 p5
              have p3 := p5.1
              have v255 : σ 255 (t i - 65) = min 2001 (cx (t i - 65)) := by rw [p1 255 (by omega) (by omega), g14, ml_up_k (by omega), k7 255 (by omega), e255, w2']
              have W : ∀ v, (U d + S d + y < 2000 → v = mq_iv (ex (t i - 65) y)) → y < min 2001 (cx (t i - 65)) → f_X12_writesOut_u242 Q (f_X12_writesOut_u198 Q (f_X12_writesOut_u251 Q (f_X12_writesOut_u24 Q (f_X12_writesOut_u254 Q) N)) M) σ w d (t i) y w v := fun v hv yl => by
                unfold f_X12_writesOut_u242
                refine s_writes h5 w0 w1 (by omega) p5 mvL (fun z => by unfold mt_wra; rw [if_neg (by omega), show U d + S d + y - (U d + S d) = y by omega]; exact hv z) (fun σ1 h1 h2 h4 h3 => ⟨mt_I2 (by omega) (by omega), fun y2 e2 => ?_⟩)
                subst e2
                exact ihy (y + 1) σ1 (by omega) (by omega) (by omega) (fun j a b => by rw [h1 j a b, p1 j a b]) (fun b hb => by rw [h2 b hb, p2 b hb]) (fun q hq => by rw [h4 q hq, p4 q hq]) (by rw [← Int.add_assoc]; exact h3)
              unfold f_X12_writesOut_u198
              rw [v255]
              refine ⟨mt_I (by omega) (by omega), by omega, by omega, fun _ => ⟨fun q => ?_, fun q => ⟨fun _ => W _ (fun z => by omega) (by omega), fun _ => ⟨mt_I (by omega) (by omega), mt_I2 (by omega) (by omega), mt_I2 (by omega) (by omega), by omega, by omega, fun _ => W _ (fun z => by rw [p4 _ (by omega)]; exact w3' y y0 (by omega) (by omega)) (by omega)⟩⟩⟩⟩
              unfold f_X12_writesOut_u251
              have kk : ∀ j, j ≠ 215 → j ≠ 254 → j ≠ 256 → σ j = τ j := fun j a b c => by rw [p1 j a b, g14, ml_up_k c, k7 j a]
              have bb : ∀ b, b ≠ 19 → b ≠ 61 → σ 215 b = τ 215 b := fun b h1 h2 => by rw [p2 b h2, g14, ml_up_k (by omega), b7 b h1]
              have e256 : σ 256 = ml_up σ7 256 d (min 2001 (U d + S d)) 256 := by rw [p1 256 (by omega) (by omega), g14]
              exact AF N (i + 1) d S U _ (S d) (cx (t i - 65)) σ p4 mvL hy ⟨fun j p1 p2 p3 p4 => by rw [kk j p1 p2 p4, f.1 j p1 p2 p3 p4], fun b p1 p2 p3 => by rw [bb b p1 p3, f.2 b p1 p2 p3]⟩ (by rw [kk 255 (by omega) (by omega) (by omega), e255]) (by rw [bb 20 (by omega) (by omega), e20]) (by rw [p2 19 (by omega), g14, ml_up_k (by omega), r7]) (by omega) (by omega) d0 d6 z5 (by omega) (by omega) (lo7 _ (fun k hk => by rw [e256, ml_up_i (by omega), k7 256 (by omega)])) U0 Ud Sd w1' (by rw [e256, ml_up_same]) ⟨by rw [p3]; omega, fun j j0 j1 j2 => p5.2 j j0 (by omega) j2⟩ z6 hx
          exact I 2010 0 σ14 (by omega) (by omega) (by omega) (fun _ _ _ => rfl) (fun _ _ => rfl) (fun q hq => by rw [g14, ml_up_k (by omega)]; exact ro7 q hq) (by rw [Int.add_zero]; exact mq_rw_c (by rw [g14, ml_up_k (by omega)]) (by rw [g14, ml_up_k (by omega)]) (fun j _ j1 => by unfold mt_wra; rw [if_pos j1]) r7w)
      · -- a closing
        rcases mt_gr_c n0 i0 g with z | z | z | z | z
        · omega
        · omega
        · obtain ⟨z1, z2, z3, z4, z5, z6⟩ := z
          rw [if_neg (by omega), if_pos c41] at hx hy
          refine ⟨mt_I (by omega) (by omega), fun y27 e27 => ?_⟩
          have e27 : y27 = d - 1 := by omega
          subst e27
          unfold f_X12_writesOut_u251
          obtain ⟨p1, p2, p3, p4⟩ := lo (d - 1) (by omega) (by omega)
          rw [show d - 1 + 1 = d by omega] at p3 p4
          exact AF N (i + 1) (d - 1) S U E (S (d - 1)) (S d) σ7 ro7 mv (by rw [← p3]; rw [show U d + S d - U d = S d by omega] at hy; exact hy) f7 (by rw [k7 255 (by omega), e255]) (by rw [b7 20 (by omega), e20]) r7 (by omega) (by omega) (by omega) (by omega) z5 (by omega) (by omega) (fun k k0 k1 => by rw [k7 256 (by omega)]; exact lo k k0 (by omega)) U0 p2 p1 Sd (by rw [k7 256 (by omega), p4, p3]) (by rw [← p3]; exact r7w) z6 hx
        · omega
        · omega
      · -- an opening
        rcases mt_gr_c n0 i0 g with z | z | z | z | z
        · omega
        · obtain ⟨z1, z2, z3, z4⟩ := z
          rw [if_pos c40] at hx hy
          have u1 : mt_st U (d + 1) (U d + S d) (d + 1) = U d + S d := if_pos rfl
          have u2 : mt_st S (d + 1) 0 (d + 1) = 0 := if_pos rfl
          rw [q7]
          refine fun _ => ⟨d0, by omega, fun σ17 g17 => ⟨mt_I (by omega) (by omega), fun y18 e18 => ?_⟩⟩
          subst e18
          have k17 : ∀ j, j ≠ 256 → σ17 j = σ7 j := fun j hj => by rw [g17, ml_up_k hj]
          rw [k17 215 (by omega), q7]
          refine fun _ => ⟨by omega, by omega, fun σ20 g20 => ?_⟩
          unfold f_X12_writesOut_u251
          have kk : ∀ j, j ≠ 256 → σ20 j = σ7 j := fun j hj => by rw [g20, ml_up_k hj, k17 j hj]
          refine ih N (i + 1) (d + 1) 1 _ (mt_st U (d + 1) (U d + S d)) E σ20 (fun q hq => by rw [kk 254 (by omega)]; exact ro7 q hq) mv (by rw [u1, u2, Int.add_zero]; exact hy) ⟨fun j p1 p2 p3 p4 => by rw [kk j p4, f7.1 j p1 p2 p3 p4], fun b p1 p2 p3 => by rw [kk 215 (by omega), f7.2 b p1 p2 p3]⟩ (by rw [kk 255 (by omega), k7 255 (by omega), e255]) (by rw [kk 215 (by omega), b7 20 (by omega), e20]) (by rw [kk 215 (by omega), r7]) (by omega) (by omega) (by omega) (by omega) (by omega) (by omega) (fun k k0 k1 => ?_) ?_ ?_ ?_ ?_ z4 hx
          · unfold mt_st
            rw [if_neg (show ¬ k = d + 1 by omega), if_neg (show ¬ k = d + 1 by omega)]
            by_cases q : k = d
            · subst q
              rw [if_pos rfl, g20, ml_up_i (by omega), g17, ml_up_same]
              exact ⟨Sd, Ud, rfl, rfl⟩
            · rw [if_neg (show ¬ k + 1 = d + 1 by omega), g20, ml_up_i (by omega), g17, ml_up_i q, k7 256 (by omega)]
              exact lo k k0 (by omega)
          · unfold mt_st; rw [if_neg (by omega)]; exact U0
          · unfold mt_st; rw [if_pos rfl]; omega
          · unfold mt_st; rw [if_pos rfl]; omega
          · rw [u1, u2, Int.add_zero]; exact mq_rw_c (by rw [kk 215 (by omega)]) (kk 254 (by omega)) (fun _ _ _ => rfl) r7w
        · omega
        · omega
        · omega
  unfold f_X12_writesOut f_X12_writesOut_u0
  intro σ1 g1 σ2 g2 σ3 g3
  refine ⟨by omega, by omega, fun σ4 g4 => ⟨n.toNat + 3, ?_⟩⟩
  have b4 : ∀ b, b ≠ 19 → b ≠ 20 → b ≠ 61 → σ4 215 b = τ0 215 b := fun b h1 h2 h3 => by rw [g4, ml_up_k (by omega), g3, ml_up_i h3, g2, ml_up_i h1, g1, ml_up_i h2]
  have k4 : ∀ j, j ≠ 215 → j ≠ 256 → σ4 j = τ0 j := fun j h1 h2 => by rw [g4, ml_up_k h2, g3, ml_up_k h1, g2, ml_up_k h1, g1, ml_up_k h1]
  refine L (n.toNat + 1) _ 0 0 1 (fun _ => 0) (fun _ => 0) (fun _ => 0) σ4 (fun q _ => by rw [k4 254 (by omega) (by omega)]) (fun j => by show (0 : Int) ≤ 0 ∧ (0 : Int) ≤ _; omega) rfl ⟨fun j p1 p2 p3 p4 => k4 j p1 p4, b4⟩ (k4 255 (by omega) (by omega)) ?_ ?_ (by omega) n0 (by omega) (by omega) (by omega) (by omega) (fun k k0 k1 => absurd k1 (by omega)) rfl (by omega) (by omega) ?_ g rfl
  · rw [g4, ml_up_k (by omega), g3, ml_up_i (by omega), g2, ml_up_i (by omega), g1, ml_up_same]
  · rw [g4, ml_up_k (by omega), g3, ml_up_i (by omega), g2, ml_up_same]
  · exact ⟨by rw [g4, ml_up_k (by omega), g3, ml_up_same]; omega, fun j j0 j1 _ => absurd j1 (by omega)⟩
/-! the model: walk -/
theorem mq_iv_2 {v : Int} (v0 : 0 ≤ v) : Int.tdiv (mq_iv v) 2 = v / 2 ∧ (Int.tmod (mq_iv v) 2 = 1 ↔ v % 2 = 0) := by
  have r : 0 ≤ mq_iv v := by unfold mq_iv; omega
  rw [Int.tdiv_eq_ediv_of_nonneg r, Int.tmod_eq_emod_of_nonneg r]
  unfold mq_iv
  omega
theorem s_follow12 {Q : Int → ml_St → Prop} {w x len h : Int} {val : Int → Int} {σ : ml_St} (h2 : 2 ≤ h) (h5 : h ≤ 5) (eh : σ 215 2 = h) (w0 : 0 ≤ w) (w1 : w < 16) (v : mw_v h val) (l0 : 0 ≤ len) (l1 : len ≤ 2000) (ev : ∀ j, 0 ≤ j → j < len → σ 254 (2000 * w + j) = mq_iv (val j)) : ∀ (d : Nat) (s : Int × Int × Int) (c : Int), d ≤ 20000 → mw_e val len x d s c → mw_s h s → 0 ≤ c → c ≤ 20000 - d → Q (mw val len x h d s c) σ → f_X12_walk_u120 Q (f_X12_walk_u175 Q) (f_X12_walk_u242 Q) (d + 1) σ w x len s.2.2 s.2.1 s.1 c := by
  intro d
  induction d with
  | zero =>
    intro s c _ he hs c0 c1 k
    have KE : f_X12_walk_u242 Q σ x s.2.2 s.2.1 := by
      have k : Q (mw_fin x h s) σ := k
      unfold mw_fin at k
      unfold f_X12_walk_u242 f_X12_walk_u268
      rw [eh]
      refine ⟨fun z => ?_, fun z => ⟨fun y => ?_, fun y _ => ⟨mt_I (by have := hs.1; omega) (by have := hs.2.1; omega), ?_⟩⟩⟩
      · rw [if_neg z] at k; exact k
      · rw [if_pos z, if_pos y] at k; exact k
      · rw [if_pos z, if_neg y] at k; rw [Int.add_comm]; exact k
    have he : s.1 < 0 ∨ len ≤ s.1 := he
    unfold f_X12_walk_u120
    exact ⟨fun _ => KE, fun q1 => ⟨fun _ => KE, fun q2 => absurd he (by omega)⟩⟩
  | succ d ih =>
    intro s c d9 he hs c0 c1 k
    unfold mw at k
    have KE : (s.1 < 0 ∨ len ≤ s.1) → f_X12_walk_u242 Q σ x s.2.2 s.2.1 := fun w => by
      rw [if_pos w] at k
      unfold mw_fin at k
      unfold f_X12_walk_u242 f_X12_walk_u268
      rw [eh]
      refine ⟨fun z => ?_, fun z => ⟨fun y => ?_, fun y _ => ⟨mt_I (by have := hs.1; omega) (by have := hs.2.1; omega), ?_⟩⟩⟩
      · rw [if_neg z] at k; exact k
      · rw [if_pos z, if_pos y] at k; exact k
      · rw [if_pos z, if_neg y] at k; rw [Int.add_comm]; exact k
    unfold f_X12_walk_u120
    refine ⟨fun q1 => KE (Or.inl q1), fun q1 => ⟨fun q2 => KE (Or.inr q2), fun q2 => ?_⟩⟩
    have ei : ¬ (s.1 < 0 ∨ len ≤ s.1) := by omega
    rw [if_neg ei] at k
    rw [ev s.1 (by omega) (by omega)]
    have vr := v s.1
    obtain ⟨td, tm⟩ := mq_iv_2 vr.1
    have f1 := mw_sp_1 val s
    have f2 := mw_sp_r val s
    have f3 := mw_sp_w val s
    have hn := mw_s_n v hs
    obtain ⟨s1, s2, s3⟩ := id hs
    refine ⟨mt_I2 (by omega) (by omega), mt_I2 (by omega) (by omega), by omega, by omega, fun I8 y6 e6 => ⟨by omega, ?_, fun y8 e8 => ?_⟩⟩
    · rw [e6, td]; exact mt_I (by omega) (by omega)
    rw [e6, td] at e8
    rw [← e8] at f2 f3 k
    -- on
    have NX : ∀ c', 0 ≤ c' → c' ≤ 20000 - (d : Int) → mw_e val len x d (mw_sp val s) c' → Q (mw val len x h d (mw_sp val s) c') σ → ∀ r' w', r' = (mw_sp val s).2.1 → w' = (mw_sp val s).2.2 → f_X12_walk_u224 Q (f_X12_walk_u120 Q (f_X12_walk_u175 Q) (f_X12_walk_u242 Q) (d + 1)) σ w x len w' r' s.1 c' := by
      intro c' a0 a1 he' k' r' w' er ew
      have go : ∀ y, y = (mw_sp val s).1 → f_X12_walk_u120 Q (f_X12_walk_u175 Q) (f_X12_walk_u242 Q) (d + 1) σ w x len w' r' y c' := fun y ey => by
        rw [er, ew, ey]
        exact ih (mw_sp val s) c' (by omega) he' hn a0 a1 k'
      rw [← ew] at f1
      unfold f_X12_walk_u224 f_X12_walk_u236
      refine ⟨fun z => ⟨mt_I (by omega) (by omega), fun y2 e2 => go y2 ?_⟩, fun z => ⟨mt_I (by omega) (by omega), fun y2 e2 => go y2 ?_⟩⟩
      · rw [f1, if_pos z]; exact e2
      · rw [f1, if_neg z]; exact e2
    have MT : (s.2.1 = y8 ∨ s.2.1 = y8 + 1) → f_X12_walk_u169 Q (f_X12_walk_u120 Q (f_X12_walk_u175 Q) (f_X12_walk_u242 Q) (d + 1)) (f_X12_walk_u175 Q) σ w x len s.2.2 s.2.1 s.1 c y6 y8 := by
      intro hi
      have hon : mw_on val s := by unfold mw_on; rw [← e8]; exact hi
      rw [if_pos hi] at k f3
      unfold f_X12_walk_u169
      refine ⟨fun ne => ⟨mt_I2 (by omega) (by omega), fun y2 e2 => ?_⟩, fun eq => ?_⟩
      · rw [if_neg ne] at k
        have he' : mw_e val len x d (mw_sp val s) (c + 1) := by
          rcases he with z | z | z
          · exact absurd z ei
          · exact z.2.resolve_left ne
          · exact absurd hon z.1
        subst e2
        have W2 : ∀ r', r' = (mw_sp val s).2.1 → f_X12_walk_u197 Q (f_X12_walk_u120 Q (f_X12_walk_u175 Q) (f_X12_walk_u242 Q) (d + 1)) σ w x len s.2.2 s.1 (c + 1) y6 r' := by
          intro r' er
          have go := NX (c + 1) (by omega) (by omega) he' k r'
          unfold f_X12_walk_u197 f_X12_walk_u212 f_X12_walk_u222
          have t2 : -2 ≤ Int.tmod y6 2 ∧ Int.tmod y6 2 ≤ 2 := by
            have z0 : 0 ≤ y6 := by rw [e6]; unfold mq_iv; omega
            rw [Int.tmod_eq_emod_of_nonneg z0]; omega
          rw [← e6] at tm
          refine ⟨by omega, mt_I (by omega) (by omega), fun z => ⟨fun z2 => ?_, fun z2 => ?_⟩, fun z => ⟨fun z2 => ?_, fun z2 => ?_⟩⟩
          · rw [if_neg (fun y => z (tm.2 y))] at f3; exact go 0 er (by omega)
          · rw [if_neg (fun y => z (tm.2 y))] at f3; exact go 1 er (by omega)
          · rw [if_pos (tm.1 z)] at f3; exact go 0 er (by omega)
          · rw [if_pos (tm.1 z)] at f3; exact go 1 er (by omega)
        refine ⟨fun z => W2 y8 ?_, fun z => ⟨mt_I (by omega) (by omega), W2 (y8 + 1) ?_⟩⟩
        · rw [f2, if_neg z, if_pos (hi.resolve_left z)]
        · rw [f2, if_pos z]
      · rw [if_pos eq] at k
        unfold f_X12_walk_u175; exact k
    refine ⟨fun z => MT (Or.inl z), fun z => ⟨mt_I (by omega) (by omega), fun z2 => ?_, fun z2 => MT (Or.inr z2)⟩⟩
    rw [if_neg (by omega)] at k f3
    rw [if_neg z, if_neg z2] at f2
    have he' : mw_e val len x d (mw_sp val s) c := by
      rcases he with y | y | y
      · exact absurd y ei
      · exact absurd y.1 (by unfold mw_on; rw [← e8]; omega)
      · exact y.2
    exact NX c c0 (by omega) he' k s.2.1 s.2.2 f2.symm f3.symm
theorem m_walk {Q : Int → ml_St → Prop} {h told ts cap w e x : Int} {tb cl pr sz : Int → Int} {T : Int → Int → Int} {τ : ml_St} (i : IM h told ts cap tb cl pr sz T τ) (k1 : mw_c told h T sz w e x → ∀ σ, IM h told ts cap tb cl pr sz T σ → (∀ j, j < 215 → σ j = τ j) → Q (mw_a h T sz w e x) σ) (k0 : ¬ mw_c told h T sz w e x → Q (-1) τ) : f_X12_walk τ w e x Q := by
  have t16 := i.1.2.2.2.2.2
  have h2 := i.1.2.2.1
  have h5 := i.1.2.2.2.1
  unfold f_X12_walk f_X12_walk_u0
  unfold f_X12_walk_u33
  refine m_isWord i (fun w0 w1 _ => ⟨fun z => absurd z (by omega), fun _ => ?_⟩) (fun n _ => ⟨fun _ => k0 (fun y => n ⟨y.1, y.2.1⟩), fun z => absurd rfl z⟩)
  obtain ⟨c1, c2, c3, c4⟩ := IM_cv i w0 w1
  have nn := (i.2.2.2.2 w w0 w1).2.1
  refine s_signsOf w0 (by omega) nn.1 nn.2 c3 c4 (fun _ => ⟨fun z => k0 (fun y => by have := y.2.2.1; unfold mt_top at z; omega), fun few => m_isEnd h2 h5 i.1.1 (fun e0 e1 _ => ⟨fun z => absurd z (by omega), fun _ => ⟨fun x0 => ⟨18, ?_⟩, fun z => k0 (fun y => z y.2.2.2.2.2)⟩⟩) (fun n _ => ⟨fun _ => k0 (fun y => n ⟨y.2.2.2.1, y.2.2.2.2.1⟩), fun z => absurd rfl z⟩)⟩)
  have few : mt_cn mt_one T sz w ≤ 2000 := by unfold mt_top at few; omega
  have k1 := k1 ⟨w0, w1, few, e0, e1, x0⟩
  have C0 := c1.1
  have good : ∀ u : Nat, (u : Int) < told → mt_good h u (T u) (sz u) := fun u hu => (i.2.2.2.2 u (by omega) hu).1.1
  have mvu : ∀ u, 0 ≤ u → u < told → mw_v h (mt_ex T sz u) := fun u u0 u1 => by
    have := mt_ex_v (h := h) (T := T) (sz := sz) h2 u.toNat (by omega) (fun v hv => good v (by omega))
    rw [show ((u.toNat : Nat) : Int) = u by omega] at this
    exact this
  -- the end
  have E : ∀ σ, IM h told ts cap tb cl pr sz T σ → (∀ j, j < 215 → σ j = τ j) → σ 255 w = min 2001 (mt_cn mt_one T sz w) → (∀ j, 0 ≤ j → j < mt_cn mt_one T sz w → j < 2000 → σ 254 (2000 * w + j) = mq_iv (mt_ex T sz w j)) → f_X12_walk_u56 Q σ w e x := by
    intro σ i' f' ew er
    unfold f_X12_walk_u56
    unfold f_X12_walk_u77 f_X12_walk_u97 f_X12_walk_u115
    rw [ew, i'.1.1, show min 2001 (mt_cn mt_one T sz w) = mt_cn mt_one T sz w by omega]
    have kk := k1 σ i' f'
    unfold mw_a at kk
    have S : ∀ s, mw_0 h (mt_cn mt_one T sz w) e = s → mw_s h s → ((s.1 = 0 ∧ s.2.2 = 1) ∨ (s.1 = mt_cn mt_one T sz w - 1 ∧ s.2.2 = 0)) → ∃ N1, f_X12_walk_u120 Q (f_X12_walk_u175 Q) (f_X12_walk_u242 Q) N1 σ w x (mt_cn mt_one T sz w) s.2.2 s.2.1 s.1 0 := fun s es hs st => by
      rw [es] at kk
      exact ⟨20001, s_follow12 h2 h5 i'.1.1 w0 (by omega) (mvu w w0 w1) C0 few (fun j j0 j1 => er j j0 j1 (by omega)) 20000 s 0 (by omega) (mw_ends h5 (mvu w w0 w1) C0 few hs st 0) hs (by omega) (by omega) kk⟩
    refine ⟨w0, by omega, fun _ y2 e2 _ => ?_⟩
    subst e2
    refine ⟨fun q _ => ⟨fun _ _ => ⟨mt_I (by omega) (by omega), fun _ => ⟨fun _ => ⟨mt_I (by omega) (by omega), ?_⟩, fun z => absurd q z⟩⟩, fun z => absurd q z⟩, fun q _ => ⟨fun z => absurd z q, fun _ _ => ⟨fun z => absurd z q, fun _ => ?_⟩⟩⟩
    · exact S (mt_cn mt_one T sz w - 1, e - h, 0) (by unfold mw_0; rw [if_neg (by omega), if_neg (by omega), if_neg (by omega)]) ⟨by show 0 ≤ e - h; omega, by show e - h < h; omega, Or.inl rfl⟩ (Or.inr ⟨rfl, rfl⟩)
    · exact S (0, e, 1) (by unfold mw_0; rw [if_pos (by omega), if_pos (by omega), if_pos (by omega)]) ⟨e0, by show e < h; omega, Or.inr rfl⟩ (Or.inl ⟨rfl, rfl⟩)
  have L : ∀ (N : Nat) (v : Int) (σ : ml_St), 0 ≤ v → v ≤ w + 1 → w + 1 - v < N → IM h told ts cap tb cl pr sz T σ → (∀ j, j < 215 → σ j = τ j) → (∀ u, 0 ≤ u → u < v → σ 255 u = min 2001 (mt_cn mt_one T sz u) ∧ ∀ j, 0 ≤ j → j < mt_cn mt_one T sz u → j < 2000 → σ 254 (2000 * u + j) = mq_iv (mt_ex T sz u j)) → f_X12_walk_u38 Q (f_X12_walk_u56 Q) N σ w e x v := by
    intro N
    induction N with
    | zero => intro v σ v0 v1 hN; omega
    | succ N ih =>
      intro v σ v0 v1 hN i' f' hv
      unfold f_X12_walk_u38
      refine ⟨fun _ => E σ i' f' (hv w w0 (by omega)).1 (hv w w0 (by omega)).2, fun q => ?_⟩
      have vt : v < told := by omega
      obtain ⟨g, s1, s2⟩ := (i'.2.2.2.2 v v0 vt).1
      have et : mt_teq (sz v) (T v) (fun j => σ 218 (100 * v + j)) := fun j j0 j1 => (s2 j j0 j1).symm
      have g' := mt_good_c et g
      have iT := IM_T i'
      have gv := good v.toNat (by omega)
      have so0 : ∀ c, 0 ≤ mt_one c := fun c => by unfold mt_one; omega
      have c0 : ∀ u, 0 ≤ u → u < v → 0 ≤ mt_cn mt_one T sz u := fun u u0 u1 => by
        have := mt_cn_0 (h := h) (T := T) (sz := sz) so0 u.toNat (by omega) (fun z hz => iT z (by omega))
        rw [show ((u.toNat : Nat) : Int) = u by omega] at this
        exact this
      have ec : mt_ctw (fun j => σ 218 (100 * v + j)) (sz v) mt_one (mt_cn mt_one T sz) = mt_cn mt_one T sz v := by
        have := mt_cn_e (h := h) (sg := mt_one) (T := T) (sz := sz) (w := v.toNat) (by omega) gv
        rw [show ((v.toNat : Nat) : Int) = v by omega] at this
        rw [this]
        exact (mt_ct_t (h := h) (w := v) (by have := g.1; omega) et (fun _ _ _ => rfl) _ _ _ 1 _ (Int.le_refl 0) (by have := g.1; omega) g.2.2.2).symm
      have ee : mt_wrw (fun j => σ 218 (100 * v + j)) (sz v) (mt_cn mt_one T sz) (mt_ex T sz) = mt_ex T sz v := by
        have := mt_ex_e (h := h) (T := T) (sz := sz) (w := v.toNat) (by omega) gv
        rw [show ((v.toNat : Nat) : Int) = v by omega] at this
        rw [this]
        exact (mt_wr_t (h := h) (w := v) (by have := g.1; omega) et (fun _ _ _ => ⟨rfl, rfl⟩) _ _ _ 1 _ _ _ (Int.le_refl 0) (by have := g.1; omega) g.2.2.2).symm
      refine s_writesOut (h := h) (cx := mt_cn mt_one T sz) (ex := mt_ex T sz) h2 v0 (by omega) h5 (by have := g.1; omega) g.2.1 s1 g'.2.2.1 g'.2.2.2 (fun u u0 u1 => ⟨c0 u u0 u1, (hv u u0 u1).1, (hv u u0 u1).2, mvu u u0 (by omega)⟩) (fun σ2 f2 o2 e2 ro2 r2 => ⟨mt_I (by omega) (by omega), fun y ey => ?_⟩)
      subst ey
      rw [ec] at e2 r2
      rw [ee] at r2
      refine ih (v + 1) σ2 (by omega) (by omega) (by omega) (IM_kq (mt_kq_o (fun j hj => f2.1 j (by omega) (by omega) (by omega) (by omega)) (fun b b1 b2 => f2.2 b (by omega) (by omega) (by omega))) i') (fun j hj => by rw [f2.1 j (by omega) (by omega) (by omega) (by omega), f' j hj]) (fun u u0 u1 => ?_)
      by_cases z : u = v
      · rw [z]; exact ⟨e2, r2⟩
      · refine ⟨by rw [o2 u z]; exact (hv u u0 (by omega)).1, fun j j0 j1 j2 => ?_⟩
        rw [ro2 _ (by omega)]; exact (hv u u0 (by omega)).2 j j0 j1 j2
  exact L 18 0 τ (by omega) (by omega) (by omega) i (fun _ _ => rfl) (fun u u0 u1 => absurd u1 (by omega))
/-! STAGE 2: what the functions f_.. do, as whole numbers -/
def ml_rv (h j : Int) : Int := if j < h then j + h else j - h
def ml_rI (σ : ml_St) (h i : Int) : ml_St := fun k j => if k = 5 ∧ i ≤ j ∧ j < 2 * h then ml_rv h j else σ k j
def ml_round (σ : ml_St) (h : Int) : ml_St := ml_up (ml_rI σ h 0) 4 1 0
theorem ml_rI_step (σ : ml_St) (h i : Int) (h1 : i < 2 * h) : ml_rI (ml_up σ 5 i (ml_rv h i)) h (i + 1) = ml_rI σ h i := by
  funext k j
  unfold ml_rI ml_up
  by_cases hk : k = 5
  · subst hk
    by_cases hj : j = i
    · subst hj
      rw [if_neg (by omega), if_pos ⟨rfl, rfl⟩, if_pos (by omega)]
    · by_cases h2 : i + 1 ≤ j ∧ j < 2 * h
      · rw [if_pos ⟨rfl, h2⟩, if_pos ⟨rfl, by omega, h2.2⟩]
      · rw [if_neg (by omega), if_neg (by omega), if_neg (by omega)]
  · rw [if_neg (fun q => hk q.1), if_neg (fun q => hk q.1), if_neg (fun q => hk q.1)]
theorem s_goRound_L {Q : ml_St → Prop} {K : ml_St → Prop} {h : Int} (h0 : 0 ≤ h) (h5 : h ≤ 5) : ∀ (N : Nat) (σ : ml_St) (i : Int), 0 ≤ i → i ≤ 2 * h → 2 * h - i < N → K (ml_rI σ h i) → f_X0_goRound_u2 Q K N σ h i := by
  intro N
  induction N with
  | zero => intro σ i a b c; exact absurd c (by omega)
  | succ N ih =>
    intro σ i a b c q
    unfold f_X0_goRound_u2
    refine ⟨⟨by omega, by omega⟩, fun e => ?_, fun e => ?_⟩
    · have e2 : ml_rI σ h i = σ := by
        funext k j
        unfold ml_rI
        rw [if_neg (by omega)]
      rw [e2] at q
      exact q
    · have go : ∀ v : Int, v = ml_rv h i → f_X0_goRound_u28 Q (f_X0_goRound_u2 Q K N) σ h i i v := by
        intro v hv
        unfold f_X0_goRound_u28
        refine ⟨by omega, by omega, fun σ1 e1 => ⟨⟨by omega, by omega⟩, fun y ey => ?_⟩⟩
        subst e1; subst ey; subst hv
        exact ih _ _ (by omega) (by omega) (by omega) (by rw [ml_rI_step σ h i (by omega)]; exact q)
      refine ⟨fun e2 => ⟨⟨by omega, by omega⟩, go _ ?_⟩, fun e2 => ⟨⟨by omega, by omega⟩, go _ ?_⟩⟩
      · unfold ml_rv; rw [if_neg (by omega)]
      · unfold ml_rv; rw [if_pos (by omega)]
theorem s_goRound {Q : ml_St → Prop} {h : Int} {σ : ml_St} (h0 : 0 ≤ h) (h5 : h ≤ 5) (q : Q (ml_round σ h)) : f_X0_goRound σ h Q := by
  unfold f_X0_goRound f_X0_goRound_u0
  refine ⟨(2 * h).toNat + 1, s_goRound_L h0 h5 _ σ 0 (by omega) (by omega) (by omega) ?_⟩
  unfold f_X0_goRound_u35
  intro σ1 e1
  subst e1
  exact q
theorem ml_round_k {σ : ml_St} {h k j : Int} (h4 : k ≠ 4) (h5 : k ≠ 5) : ml_round σ h k j = σ k j := by
  unfold ml_round
  rw [ml_up_k h4]
  unfold ml_rI
  rw [if_neg (fun q => h5 q.1)]
def w_X8 (σ : ml_St) : ml_St := (ml_up (ml_up σ 2 0 3) 2 1 0)
set_option maxRecDepth 100000 in
set_option maxHeartbeats 4000000 in
theorem s_X8_init {σ : ml_St} {Q : ml_St → Prop} (z1 : ∀ j : Int, σ 3 j = 0) (q : Q (w_X8 σ)) : f_X8_init σ Q := by
  unfold f_X8_init
  refine ⟨fun j => z1 j, ?_⟩
  intro σ1 e1; subst e1
  intro σ1 e1; subst e1
  exact q
def w_X0 (σ : ml_St) : ml_St := (ml_up (ml_up σ 4 0 5) 4 1 0)
set_option maxRecDepth 100000 in
set_option maxHeartbeats 4000000 in
theorem s_X0_init {σ : ml_St} {Q : ml_St → Prop} (z1 : ∀ j : Int, σ 5 j = 0) (q : Q (w_X0 σ)) : f_X0_init σ Q := by
  unfold f_X0_init
  refine ⟨fun j => z1 j, ?_⟩
  intro σ1 e1; subst e1
  intro σ1 e1; subst e1
  exact q
def w_X2 (σ : ml_St) : ml_St := (ml_up (ml_up (ml_up (ml_up (ml_up (ml_up (ml_up σ 6 0 7) 6 1 0) 6 2 0) 6 3 0) 6 4 0) 6 5 1) 6 6 0)
set_option maxRecDepth 100000 in
set_option maxHeartbeats 4000000 in
theorem s_X2_init {σ : ml_St} {Q : ml_St → Prop} (z1 : ∀ j : Int, σ 7 j = 0) (q : Q (w_X2 σ)) : f_X2_init σ Q := by
  unfold f_X2_init
  refine ⟨fun j => z1 j, ?_⟩
  intro σ1 e1; subst e1
  intro σ1 e1; subst e1
  intro σ1 e1; subst e1
  intro σ1 e1; subst e1
  intro σ1 e1; subst e1
  intro σ1 e1; subst e1
  intro σ1 e1; subst e1
  exact q
def w_X3 (σ : ml_St) : ml_St := (ml_up (ml_up (ml_up (ml_up (ml_up (ml_up σ 9 0 10) 9 1 0) 9 2 0) 9 3 0) 9 4 0) 9 5 1)
set_option maxRecDepth 100000 in
set_option maxHeartbeats 4000000 in
theorem s_X3_init {σ : ml_St} {Q : ml_St → Prop} (z1 : ∀ j : Int, σ 10 j = 0) (q : Q (w_X3 σ)) : f_X3_init σ Q := by
  unfold f_X3_init
  refine ⟨fun j => z1 j, ?_⟩
  intro σ1 e1; subst e1
  intro σ1 e1; subst e1
  intro σ1 e1; subst e1
  intro σ1 e1; subst e1
  intro σ1 e1; subst e1
  intro σ1 e1; subst e1
  exact q
def w_X9 (σ : ml_St) (th : Int) : ml_St := (ml_up (ml_up (ml_up (ml_up (ml_up (ml_up (ml_up (ml_up σ th 0 (th + 1)) th 1 (th + 2)) th 2 0) th 3 0) th 4 0) th 5 0) th 6 0) th 7 0)
set_option maxRecDepth 100000 in
set_option maxHeartbeats 4000000 in
theorem s_X9_init {σ : ml_St} {th : Int} {Q : ml_St → Prop} (z1 : ∀ j : Int, σ (th + 1) j = 0) (z2 : ∀ j : Int, σ (th + 2) j = 0) (q : Q (w_X9 σ th)) : f_X9_init σ th Q := by
  unfold f_X9_init
  refine ⟨fun j => by first | exact z1 j | (simp only [ml_up, w_X9]; rw [if_neg (by omega)]; exact z1 j) | (have := z1 j; simp only [w_X9, ml_up]; (repeat rw [if_neg (by omega)]); exact this), ?_⟩
  intro σ1 e1; subst e1
  refine ⟨fun j => by first | exact z2 j | (simp only [ml_up, w_X9]; rw [if_neg (by omega)]; exact z2 j) | (have := z2 j; simp only [w_X9, ml_up]; (repeat rw [if_neg (by omega)]); exact this), ?_⟩
  intro σ1 e1; subst e1
  intro σ1 e1; subst e1
  intro σ1 e1; subst e1
  intro σ1 e1; subst e1
  intro σ1 e1; subst e1
  intro σ1 e1; subst e1
  intro σ1 e1; subst e1
  exact q
def w_X4 (σ : ml_St) : ml_St := (ml_up (w_X9 (ml_up (w_X9 (ml_up (w_X9 (ml_up (w_X9 (ml_up (w_X9 (ml_up (w_X9 (ml_up (w_X9 (ml_up (w_X9 (ml_up (w_X9 (ml_up (w_X9 (ml_up (w_X9 (ml_up (ml_up (ml_up (w_X3 σ) 8 0 9) 8 1 11) 8 2 12) 13) 8 3 13) 16) 8 4 16) 19) 8 5 19) 22) 8 6 22) 25) 11 0 25) 28) 11 1 28) 31) 11 2 31) 34) 11 3 34) 37) 11 4 37) 40) 11 5 40) 43) 11 6 43)
set_option maxRecDepth 100000 in
set_option maxHeartbeats 4000000 in
theorem s_X4_init {σ : ml_St} {Q : ml_St → Prop} (z1 : ∀ j : Int, σ 9 j = 0) (z2 : ∀ j : Int, σ 10 j = 0) (z3 : ∀ j : Int, σ 11 j = 0) (z4 : ∀ j : Int, σ 12 j = 0) (z5 : ∀ j : Int, σ 13 j = 0) (z6 : ∀ j : Int, σ 14 j = 0) (z7 : ∀ j : Int, σ 15 j = 0) (z8 : ∀ j : Int, σ 16 j = 0) (z9 : ∀ j : Int, σ 17 j = 0) (z10 : ∀ j : Int, σ 18 j = 0) (z11 : ∀ j : Int, σ 19 j = 0) (z12 : ∀ j : Int, σ 20 j = 0) (z13 : ∀ j : Int, σ 21 j = 0) (z14 : ∀ j : Int, σ 22 j = 0) (z15 : ∀ j : Int, σ 23 j = 0) (z16 : ∀ j : Int, σ 24 j = 0) (z17 : ∀ j : Int, σ 25 j = 0) (z18 : ∀ j : Int, σ 26 j = 0) (z19 : ∀ j : Int, σ 27 j = 0) (z20 : ∀ j : Int, σ 28 j = 0) (z21 : ∀ j : Int, σ 29 j = 0) (z22 : ∀ j : Int, σ 30 j = 0) (z23 : ∀ j : Int, σ 31 j = 0) (z24 : ∀ j : Int, σ 32 j = 0) (z25 : ∀ j : Int, σ 33 j = 0) (z26 : ∀ j : Int, σ 34 j = 0) (z27 : ∀ j : Int, σ 35 j = 0) (z28 : ∀ j : Int, σ 36 j = 0) (z29 : ∀ j : Int, σ 37 j = 0) (z30 : ∀ j : Int, σ 38 j = 0) (z31 : ∀ j : Int, σ 39 j = 0) (z32 : ∀ j : Int, σ 40 j = 0) (z33 : ∀ j : Int, σ 41 j = 0) (z34 : ∀ j : Int, σ 42 j = 0) (z35 : ∀ j : Int, σ 43 j = 0) (z36 : ∀ j : Int, σ 44 j = 0) (z37 : ∀ j : Int, σ 45 j = 0) (q : Q (w_X4 σ)) : f_X4_init σ Q := by
  unfold f_X4_init
  refine ⟨fun j => z1 j, ?_⟩
  refine s_X3_init (fun j => z2 j) ?_
  intro σ1 e1; subst e1
  refine ⟨fun j => z3 j, ?_⟩
  intro σ1 e1; subst e1
  refine ⟨fun j => z4 j, ?_⟩
  intro σ1 e1; subst e1
  refine ⟨fun j => z5 j, ?_⟩
  refine s_X9_init (fun j => z6 j) (fun j => z7 j) ?_
  intro σ1 e1; subst e1
  refine ⟨fun j => z8 j, ?_⟩
  refine s_X9_init (fun j => z9 j) (fun j => z10 j) ?_
  intro σ1 e1; subst e1
  refine ⟨fun j => z11 j, ?_⟩
  refine s_X9_init (fun j => z12 j) (fun j => z13 j) ?_
  intro σ1 e1; subst e1
  refine ⟨fun j => z14 j, ?_⟩
  refine s_X9_init (fun j => z15 j) (fun j => z16 j) ?_
  intro σ1 e1; subst e1
  refine ⟨rfl, ?_⟩
  refine ⟨fun j => z17 j, ?_⟩
  refine s_X9_init (fun j => z18 j) (fun j => z19 j) ?_
  intro σ1 e1; subst e1
  refine ⟨rfl, ?_⟩
  refine ⟨fun j => z20 j, ?_⟩
  refine s_X9_init (fun j => z21 j) (fun j => z22 j) ?_
  intro σ1 e1; subst e1
  refine ⟨rfl, ?_⟩
  refine ⟨fun j => z23 j, ?_⟩
  refine s_X9_init (fun j => z24 j) (fun j => z25 j) ?_
  intro σ1 e1; subst e1
  refine ⟨rfl, ?_⟩
  refine ⟨fun j => z26 j, ?_⟩
  refine s_X9_init (fun j => z27 j) (fun j => z28 j) ?_
  intro σ1 e1; subst e1
  refine ⟨rfl, ?_⟩
  refine ⟨fun j => z29 j, ?_⟩
  refine s_X9_init (fun j => z30 j) (fun j => z31 j) ?_
  intro σ1 e1; subst e1
  refine ⟨rfl, ?_⟩
  refine ⟨fun j => z32 j, ?_⟩
  refine s_X9_init (fun j => z33 j) (fun j => z34 j) ?_
  intro σ1 e1; subst e1
  refine ⟨rfl, ?_⟩
  refine ⟨fun j => z35 j, ?_⟩
  refine s_X9_init (fun j => z36 j) (fun j => z37 j) ?_
  intro σ1 e1; subst e1
  exact q
def w_X6 (σ : ml_St) : ml_St := (ml_up (ml_up (ml_up (ml_up (ml_up (ml_up (ml_up (w_X9 (ml_up (w_X9 (ml_up (ml_up σ 46 0 47) 46 1 48) 49) 46 2 49) 52) 46 3 52) 46 4 1) 46 5 1) 46 6 0) 46 7 1) 46 8 0) 46 9 1)
set_option maxRecDepth 100000 in
set_option maxHeartbeats 4000000 in
theorem s_X6_init {σ : ml_St} {Q : ml_St → Prop} (z1 : ∀ j : Int, σ 47 j = 0) (z2 : ∀ j : Int, σ 48 j = 0) (z3 : ∀ j : Int, σ 49 j = 0) (z4 : ∀ j : Int, σ 50 j = 0) (z5 : ∀ j : Int, σ 51 j = 0) (z6 : ∀ j : Int, σ 52 j = 0) (z7 : ∀ j : Int, σ 53 j = 0) (z8 : ∀ j : Int, σ 54 j = 0) (q : Q (w_X6 σ)) : f_X6_init σ Q := by
  unfold f_X6_init
  refine ⟨fun j => z1 j, ?_⟩
  intro σ1 e1; subst e1
  refine ⟨fun j => z2 j, ?_⟩
  intro σ1 e1; subst e1
  refine ⟨fun j => z3 j, ?_⟩
  refine s_X9_init (fun j => z4 j) (fun j => z5 j) ?_
  intro σ1 e1; subst e1
  refine ⟨fun j => z6 j, ?_⟩
  refine s_X9_init (fun j => z7 j) (fun j => z8 j) ?_
  intro σ1 e1; subst e1
  intro σ1 e1; subst e1
  intro σ1 e1; subst e1
  intro σ1 e1; subst e1
  intro σ1 e1; subst e1
  intro σ1 e1; subst e1
  intro σ1 e1; subst e1
  exact q
def w_X7 (σ : ml_St) : ml_St := (ml_up (w_X9 (ml_up (w_X9 (ml_up (ml_up (ml_up (ml_up (ml_up (ml_up (ml_up (ml_up (ml_up (ml_up (ml_up (ml_up σ 55 0 0) 55 1 0) 55 2 0) 55 3 56) 55 4 57) 55 5 58) 55 6 59) 55 7 60) 55 8 61) 55 9 62) 55 10 63) 55 11 0) 64) 55 12 64) 67) 55 13 67)
set_option maxRecDepth 100000 in
set_option maxHeartbeats 4000000 in
theorem s_X7_init {σ : ml_St} {Q : ml_St → Prop} (z1 : ∀ j : Int, σ 56 j = 0) (z2 : ∀ j : Int, σ 57 j = 0) (z3 : ∀ j : Int, σ 58 j = 0) (z4 : ∀ j : Int, σ 59 j = 0) (z5 : ∀ j : Int, σ 60 j = 0) (z6 : ∀ j : Int, σ 61 j = 0) (z7 : ∀ j : Int, σ 62 j = 0) (z8 : ∀ j : Int, σ 63 j = 0) (z9 : ∀ j : Int, σ 64 j = 0) (z10 : ∀ j : Int, σ 65 j = 0) (z11 : ∀ j : Int, σ 66 j = 0) (z12 : ∀ j : Int, σ 67 j = 0) (z13 : ∀ j : Int, σ 68 j = 0) (z14 : ∀ j : Int, σ 69 j = 0) (q : Q (w_X7 σ)) : f_X7_init σ Q := by
  unfold f_X7_init
  intro σ1 e1; subst e1
  intro σ1 e1; subst e1
  intro σ1 e1; subst e1
  refine ⟨fun j => z1 j, ?_⟩
  intro σ1 e1; subst e1
  refine ⟨fun j => z2 j, ?_⟩
  intro σ1 e1; subst e1
  refine ⟨fun j => z3 j, ?_⟩
  intro σ1 e1; subst e1
  refine ⟨fun j => z4 j, ?_⟩
  intro σ1 e1; subst e1
  refine ⟨fun j => z5 j, ?_⟩
  intro σ1 e1; subst e1
  refine ⟨fun j => z6 j, ?_⟩
  intro σ1 e1; subst e1
  refine ⟨fun j => z7 j, ?_⟩
  intro σ1 e1; subst e1
  refine ⟨fun j => z8 j, ?_⟩
  intro σ1 e1; subst e1
  intro σ1 e1; subst e1
  refine ⟨fun j => z9 j, ?_⟩
  refine s_X9_init (fun j => z10 j) (fun j => z11 j) ?_
  intro σ1 e1; subst e1
  refine ⟨fun j => z12 j, ?_⟩
  refine s_X9_init (fun j => z13 j) (fun j => z14 j) ?_
  intro σ1 e1; subst e1
  exact q
def w_X1 (σ : ml_St) : ml_St := (ml_up (ml_up (ml_up (ml_up (ml_up (ml_up (ml_up σ 70 0 71) 70 1 72) 70 2 73) 70 3 74) 70 4 75) 70 5 (-1)) 70 6 (-1))
set_option maxRecDepth 100000 in
set_option maxHeartbeats 4000000 in
theorem s_X1_init {σ : ml_St} {Q : ml_St → Prop} (z1 : ∀ j : Int, σ 71 j = 0) (z2 : ∀ j : Int, σ 72 j = 0) (z3 : ∀ j : Int, σ 73 j = 0) (z4 : ∀ j : Int, σ 74 j = 0) (z5 : ∀ j : Int, σ 75 j = 0) (q : Q (w_X1 σ)) : f_X1_init σ Q := by
  unfold f_X1_init
  refine ⟨fun j => z1 j, ?_⟩
  intro σ1 e1; subst e1
  refine ⟨fun j => z2 j, ?_⟩
  intro σ1 e1; subst e1
  refine ⟨fun j => z3 j, ?_⟩
  intro σ1 e1; subst e1
  refine ⟨fun j => z4 j, ?_⟩
  intro σ1 e1; subst e1
  refine ⟨fun j => z5 j, ?_⟩
  intro σ1 e1; subst e1
  intro σ1 e1; subst e1
  intro σ1 e1; subst e1
  exact q
def w_X5 (σ : ml_St) : ml_St := (ml_up (w_X9 (ml_up (w_X9 (ml_up (w_X9 (ml_up (w_X9 (ml_up (w_X9 (ml_up (w_X9 (ml_up (w_X9 (ml_up (w_X9 (ml_up (w_X9 (ml_up (w_X9 (ml_up (w_X9 (ml_up (w_X9 (ml_up σ 76 0 77) 78) 76 1 78) 81) 77 0 81) 84) 77 1 84) 87) 77 2 87) 90) 77 3 90) 93) 77 4 93) 96) 77 5 96) 99) 77 6 99) 102) 77 7 102) 105) 77 8 105) 108) 77 9 108) 111) 77 10 111)
set_option maxRecDepth 100000 in
set_option maxHeartbeats 4000000 in
theorem s_X5_init {σ : ml_St} {Q : ml_St → Prop} (z1 : ∀ j : Int, σ 77 j = 0) (z2 : ∀ j : Int, σ 78 j = 0) (z3 : ∀ j : Int, σ 79 j = 0) (z4 : ∀ j : Int, σ 80 j = 0) (z5 : ∀ j : Int, σ 81 j = 0) (z6 : ∀ j : Int, σ 82 j = 0) (z7 : ∀ j : Int, σ 83 j = 0) (z8 : ∀ j : Int, σ 84 j = 0) (z9 : ∀ j : Int, σ 85 j = 0) (z10 : ∀ j : Int, σ 86 j = 0) (z11 : ∀ j : Int, σ 87 j = 0) (z12 : ∀ j : Int, σ 88 j = 0) (z13 : ∀ j : Int, σ 89 j = 0) (z14 : ∀ j : Int, σ 90 j = 0) (z15 : ∀ j : Int, σ 91 j = 0) (z16 : ∀ j : Int, σ 92 j = 0) (z17 : ∀ j : Int, σ 93 j = 0) (z18 : ∀ j : Int, σ 94 j = 0) (z19 : ∀ j : Int, σ 95 j = 0) (z20 : ∀ j : Int, σ 96 j = 0) (z21 : ∀ j : Int, σ 97 j = 0) (z22 : ∀ j : Int, σ 98 j = 0) (z23 : ∀ j : Int, σ 99 j = 0) (z24 : ∀ j : Int, σ 100 j = 0) (z25 : ∀ j : Int, σ 101 j = 0) (z26 : ∀ j : Int, σ 102 j = 0) (z27 : ∀ j : Int, σ 103 j = 0) (z28 : ∀ j : Int, σ 104 j = 0) (z29 : ∀ j : Int, σ 105 j = 0) (z30 : ∀ j : Int, σ 106 j = 0) (z31 : ∀ j : Int, σ 107 j = 0) (z32 : ∀ j : Int, σ 108 j = 0) (z33 : ∀ j : Int, σ 109 j = 0) (z34 : ∀ j : Int, σ 110 j = 0) (z35 : ∀ j : Int, σ 111 j = 0) (z36 : ∀ j : Int, σ 112 j = 0) (z37 : ∀ j : Int, σ 113 j = 0) (q : Q (w_X5 σ)) : f_X5_init σ Q := by
  unfold f_X5_init
  refine ⟨fun j => z1 j, ?_⟩
  intro σ1 e1; subst e1
  refine ⟨fun j => z2 j, ?_⟩
  refine s_X9_init (fun j => z3 j) (fun j => z4 j) ?_
  intro σ1 e1; subst e1
  refine ⟨rfl, ?_⟩
  refine ⟨fun j => z5 j, ?_⟩
  refine s_X9_init (fun j => z6 j) (fun j => z7 j) ?_
  intro σ1 e1; subst e1
  refine ⟨rfl, ?_⟩
  refine ⟨fun j => z8 j, ?_⟩
  refine s_X9_init (fun j => z9 j) (fun j => z10 j) ?_
  intro σ1 e1; subst e1
  refine ⟨rfl, ?_⟩
  refine ⟨fun j => z11 j, ?_⟩
  refine s_X9_init (fun j => z12 j) (fun j => z13 j) ?_
  intro σ1 e1; subst e1
  refine ⟨rfl, ?_⟩
  refine ⟨fun j => z14 j, ?_⟩
  refine s_X9_init (fun j => z15 j) (fun j => z16 j) ?_
  intro σ1 e1; subst e1
  refine ⟨rfl, ?_⟩
  refine ⟨fun j => z17 j, ?_⟩
  refine s_X9_init (fun j => z18 j) (fun j => z19 j) ?_
  intro σ1 e1; subst e1
  refine ⟨rfl, ?_⟩
  refine ⟨fun j => z20 j, ?_⟩
  refine s_X9_init (fun j => z21 j) (fun j => z22 j) ?_
  intro σ1 e1; subst e1
  refine ⟨rfl, ?_⟩
  refine ⟨fun j => z23 j, ?_⟩
  refine s_X9_init (fun j => z24 j) (fun j => z25 j) ?_
  intro σ1 e1; subst e1
  refine ⟨rfl, ?_⟩
  refine ⟨fun j => z26 j, ?_⟩
  refine s_X9_init (fun j => z27 j) (fun j => z28 j) ?_
  intro σ1 e1; subst e1
  refine ⟨rfl, ?_⟩
  refine ⟨fun j => z29 j, ?_⟩
  refine s_X9_init (fun j => z30 j) (fun j => z31 j) ?_
  intro σ1 e1; subst e1
  refine ⟨rfl, ?_⟩
  refine ⟨fun j => z32 j, ?_⟩
  refine s_X9_init (fun j => z33 j) (fun j => z34 j) ?_
  intro σ1 e1; subst e1
  refine ⟨rfl, ?_⟩
  refine ⟨fun j => z35 j, ?_⟩
  refine s_X9_init (fun j => z36 j) (fun j => z37 j) ?_
  intro σ1 e1; subst e1
  exact q
def w_X10 (σ : ml_St) (th : Int) : ml_St := (ml_up (ml_up (ml_up (ml_up (w_X9 (ml_up (ml_up (ml_up (ml_up σ th 0 (th + 1)) th 1 0) th 2 0) th 3 1) (th + 2)) th 4 (th + 2)) th 5 (th + 5)) th 6 0) th 7 0)
set_option maxRecDepth 100000 in
set_option maxHeartbeats 4000000 in
theorem s_X10_init {σ : ml_St} {th : Int} {Q : ml_St → Prop} (z1 : ∀ j : Int, σ (th + 1) j = 0) (z2 : ∀ j : Int, σ (th + 2) j = 0) (z3 : ∀ j : Int, σ (th + 3) j = 0) (z4 : ∀ j : Int, σ (th + 4) j = 0) (z5 : ∀ j : Int, σ (th + 5) j = 0) (q : Q (w_X10 σ th)) : f_X10_init σ th Q := by
  unfold f_X10_init
  refine ⟨fun j => by first | exact z1 j | (simp only [ml_up, w_X9]; rw [if_neg (by omega)]; exact z1 j) | (have := z1 j; simp only [w_X9, ml_up]; (repeat rw [if_neg (by omega)]); exact this), ?_⟩
  intro σ1 e1; subst e1
  intro σ1 e1; subst e1
  intro σ1 e1; subst e1
  intro σ1 e1; subst e1
  refine ⟨fun j => by first | exact z2 j | (simp only [ml_up, w_X9]; rw [if_neg (by omega)]; exact z2 j) | (have := z2 j; simp only [w_X9, ml_up]; (repeat rw [if_neg (by omega)]); exact this), ?_⟩
  refine s_X9_init (fun j => by have := z3 j; simp only [ml_up]; (repeat rw [if_neg (by omega)]); rw [show (th + 2 + 1 : Int) = th + 3 by omega]; exact this) (fun j => by have := z4 j; simp only [ml_up]; (repeat rw [if_neg (by omega)]); rw [show (th + 2 + 2 : Int) = th + 4 by omega]; exact this) ?_
  intro σ1 e1; subst e1
  refine ⟨fun j => by first | exact z5 j | (simp only [ml_up, w_X9]; rw [if_neg (by omega)]; exact z5 j) | (have := z5 j; simp only [w_X9, ml_up]; (repeat rw [if_neg (by omega)]); exact this), ?_⟩
  intro σ1 e1; subst e1
  intro σ1 e1; subst e1
  intro σ1 e1; subst e1
  exact q
def w_X11a (σ : ml_St) : ml_St := (ml_up (w_X10 (ml_up (w_X10 (ml_up (w_X10 (ml_up (w_X10 (ml_up (w_X10 (ml_up (w_X10 (ml_up (w_X10 (ml_up (w_X10 (ml_up (w_X10 (ml_up (w_X10 (ml_up (w_X10 (ml_up (w_X10 (ml_up (w_X10 (ml_up (w_X10 (ml_up (w_X10 (ml_up (w_X10 (ml_up (ml_up (ml_up (w_X9 (ml_up (ml_up (ml_up (w_X5 (ml_up (w_X1 (ml_up (w_X7 (ml_up (w_X6 (ml_up (w_X4 (ml_up (w_X2 (ml_up (w_X0 (ml_up (w_X8 σ) 1 0 2)) 1 1 4)) 1 2 6)) 1 3 8)) 1 4 46)) 1 5 55)) 1 6 70)) 1 7 76) 1 8 114) 1 9 115) 116) 1 10 116) 1 11 4) 1 12 0) 119) 114 0 119) 125) 114 1 125) 131) 114 2 131) 137) 114 3 137) 143) 114 4 143) 149) 114 5 149) 155) 114 6 155) 161) 114 7 161) 167) 114 8 167) 173) 114 9 173) 179) 114 10 179) 185) 114 11 185) 191) 114 12 191) 197) 114 13 197) 203) 114 14 203) 209) 114 15 209)
def w_X11 (σ : ml_St) : ml_St := ml_round (w_X11a σ) 4
set_option maxRecDepth 100000 in
set_option maxHeartbeats 4000000 in
theorem s_X11_init {σ : ml_St} {Q : ml_St → Prop} (z1 : ∀ j : Int, σ 2 j = 0) (z2 : ∀ j : Int, σ 3 j = 0) (z3 : ∀ j : Int, σ 4 j = 0) (z4 : ∀ j : Int, σ 5 j = 0) (z5 : ∀ j : Int, σ 6 j = 0) (z6 : ∀ j : Int, σ 7 j = 0) (z7 : ∀ j : Int, σ 8 j = 0) (z8 : ∀ j : Int, σ 9 j = 0) (z9 : ∀ j : Int, σ 10 j = 0) (z10 : ∀ j : Int, σ 11 j = 0) (z11 : ∀ j : Int, σ 12 j = 0) (z12 : ∀ j : Int, σ 13 j = 0) (z13 : ∀ j : Int, σ 14 j = 0) (z14 : ∀ j : Int, σ 15 j = 0) (z15 : ∀ j : Int, σ 16 j = 0) (z16 : ∀ j : Int, σ 17 j = 0) (z17 : ∀ j : Int, σ 18 j = 0) (z18 : ∀ j : Int, σ 19 j = 0) (z19 : ∀ j : Int, σ 20 j = 0) (z20 : ∀ j : Int, σ 21 j = 0) (z21 : ∀ j : Int, σ 22 j = 0) (z22 : ∀ j : Int, σ 23 j = 0) (z23 : ∀ j : Int, σ 24 j = 0) (z24 : ∀ j : Int, σ 25 j = 0) (z25 : ∀ j : Int, σ 26 j = 0) (z26 : ∀ j : Int, σ 27 j = 0) (z27 : ∀ j : Int, σ 28 j = 0) (z28 : ∀ j : Int, σ 29 j = 0) (z29 : ∀ j : Int, σ 30 j = 0) (z30 : ∀ j : Int, σ 31 j = 0) (z31 : ∀ j : Int, σ 32 j = 0) (z32 : ∀ j : Int, σ 33 j = 0) (z33 : ∀ j : Int, σ 34 j = 0) (z34 : ∀ j : Int, σ 35 j = 0) (z35 : ∀ j : Int, σ 36 j = 0) (z36 : ∀ j : Int, σ 37 j = 0) (z37 : ∀ j : Int, σ 38 j = 0) (z38 : ∀ j : Int, σ 39 j = 0) (z39 : ∀ j : Int, σ 40 j = 0) (z40 : ∀ j : Int, σ 41 j = 0) (z41 : ∀ j : Int, σ 42 j = 0) (z42 : ∀ j : Int, σ 43 j = 0) (z43 : ∀ j : Int, σ 44 j = 0) (z44 : ∀ j : Int, σ 45 j = 0) (z45 : ∀ j : Int, σ 46 j = 0) (z46 : ∀ j : Int, σ 47 j = 0) (z47 : ∀ j : Int, σ 48 j = 0) (z48 : ∀ j : Int, σ 49 j = 0) (z49 : ∀ j : Int, σ 50 j = 0) (z50 : ∀ j : Int, σ 51 j = 0) (z51 : ∀ j : Int, σ 52 j = 0) (z52 : ∀ j : Int, σ 53 j = 0) (z53 : ∀ j : Int, σ 54 j = 0) (z54 : ∀ j : Int, σ 55 j = 0) (z55 : ∀ j : Int, σ 56 j = 0) (z56 : ∀ j : Int, σ 57 j = 0) (z57 : ∀ j : Int, σ 58 j = 0) (z58 : ∀ j : Int, σ 59 j = 0) (z59 : ∀ j : Int, σ 60 j = 0) (z60 : ∀ j : Int, σ 61 j = 0) (z61 : ∀ j : Int, σ 62 j = 0) (z62 : ∀ j : Int, σ 63 j = 0) (z63 : ∀ j : Int, σ 64 j = 0) (z64 : ∀ j : Int, σ 65 j = 0) (z65 : ∀ j : Int, σ 66 j = 0) (z66 : ∀ j : Int, σ 67 j = 0) (z67 : ∀ j : Int, σ 68 j = 0) (z68 : ∀ j : Int, σ 69 j = 0) (z69 : ∀ j : Int, σ 70 j = 0) (z70 : ∀ j : Int, σ 71 j = 0) (z71 : ∀ j : Int, σ 72 j = 0) (z72 : ∀ j : Int, σ 73 j = 0) (z73 : ∀ j : Int, σ 74 j = 0) (z74 : ∀ j : Int, σ 75 j = 0) (z75 : ∀ j : Int, σ 76 j = 0) (z76 : ∀ j : Int, σ 77 j = 0) (z77 : ∀ j : Int, σ 78 j = 0) (z78 : ∀ j : Int, σ 79 j = 0) (z79 : ∀ j : Int, σ 80 j = 0) (z80 : ∀ j : Int, σ 81 j = 0) (z81 : ∀ j : Int, σ 82 j = 0) (z82 : ∀ j : Int, σ 83 j = 0) (z83 : ∀ j : Int, σ 84 j = 0) (z84 : ∀ j : Int, σ 85 j = 0) (z85 : ∀ j : Int, σ 86 j = 0) (z86 : ∀ j : Int, σ 87 j = 0) (z87 : ∀ j : Int, σ 88 j = 0) (z88 : ∀ j : Int, σ 89 j = 0) (z89 : ∀ j : Int, σ 90 j = 0) (z90 : ∀ j : Int, σ 91 j = 0) (z91 : ∀ j : Int, σ 92 j = 0) (z92 : ∀ j : Int, σ 93 j = 0) (z93 : ∀ j : Int, σ 94 j = 0) (z94 : ∀ j : Int, σ 95 j = 0) (z95 : ∀ j : Int, σ 96 j = 0) (z96 : ∀ j : Int, σ 97 j = 0) (z97 : ∀ j : Int, σ 98 j = 0) (z98 : ∀ j : Int, σ 99 j = 0) (z99 : ∀ j : Int, σ 100 j = 0) (z100 : ∀ j : Int, σ 101 j = 0) (z101 : ∀ j : Int, σ 102 j = 0) (z102 : ∀ j : Int, σ 103 j = 0) (z103 : ∀ j : Int, σ 104 j = 0) (z104 : ∀ j : Int, σ 105 j = 0) (z105 : ∀ j : Int, σ 106 j = 0) (z106 : ∀ j : Int, σ 107 j = 0) (z107 : ∀ j : Int, σ 108 j = 0) (z108 : ∀ j : Int, σ 109 j = 0) (z109 : ∀ j : Int, σ 110 j = 0) (z110 : ∀ j : Int, σ 111 j = 0) (z111 : ∀ j : Int, σ 112 j = 0) (z112 : ∀ j : Int, σ 113 j = 0) (z113 : ∀ j : Int, σ 114 j = 0) (z114 : ∀ j : Int, σ 115 j = 0) (z115 : ∀ j : Int, σ 116 j = 0) (z116 : ∀ j : Int, σ 117 j = 0) (z117 : ∀ j : Int, σ 118 j = 0) (z118 : ∀ j : Int, σ 119 j = 0) (z119 : ∀ j : Int, σ 120 j = 0) (z120 : ∀ j : Int, σ 121 j = 0) (z121 : ∀ j : Int, σ 122 j = 0) (z122 : ∀ j : Int, σ 123 j = 0) (z123 : ∀ j : Int, σ 124 j = 0) (z124 : ∀ j : Int, σ 125 j = 0) (z125 : ∀ j : Int, σ 126 j = 0) (z126 : ∀ j : Int, σ 127 j = 0) (z127 : ∀ j : Int, σ 128 j = 0) (z128 : ∀ j : Int, σ 129 j = 0) (z129 : ∀ j : Int, σ 130 j = 0) (z130 : ∀ j : Int, σ 131 j = 0) (z131 : ∀ j : Int, σ 132 j = 0) (z132 : ∀ j : Int, σ 133 j = 0) (z133 : ∀ j : Int, σ 134 j = 0) (z134 : ∀ j : Int, σ 135 j = 0) (z135 : ∀ j : Int, σ 136 j = 0) (z136 : ∀ j : Int, σ 137 j = 0) (z137 : ∀ j : Int, σ 138 j = 0) (z138 : ∀ j : Int, σ 139 j = 0) (z139 : ∀ j : Int, σ 140 j = 0) (z140 : ∀ j : Int, σ 141 j = 0) (z141 : ∀ j : Int, σ 142 j = 0) (z142 : ∀ j : Int, σ 143 j = 0) (z143 : ∀ j : Int, σ 144 j = 0) (z144 : ∀ j : Int, σ 145 j = 0) (z145 : ∀ j : Int, σ 146 j = 0) (z146 : ∀ j : Int, σ 147 j = 0) (z147 : ∀ j : Int, σ 148 j = 0) (z148 : ∀ j : Int, σ 149 j = 0) (z149 : ∀ j : Int, σ 150 j = 0) (z150 : ∀ j : Int, σ 151 j = 0) (z151 : ∀ j : Int, σ 152 j = 0) (z152 : ∀ j : Int, σ 153 j = 0) (z153 : ∀ j : Int, σ 154 j = 0) (z154 : ∀ j : Int, σ 155 j = 0) (z155 : ∀ j : Int, σ 156 j = 0) (z156 : ∀ j : Int, σ 157 j = 0) (z157 : ∀ j : Int, σ 158 j = 0) (z158 : ∀ j : Int, σ 159 j = 0) (z159 : ∀ j : Int, σ 160 j = 0) (z160 : ∀ j : Int, σ 161 j = 0) (z161 : ∀ j : Int, σ 162 j = 0) (z162 : ∀ j : Int, σ 163 j = 0) (z163 : ∀ j : Int, σ 164 j = 0) (z164 : ∀ j : Int, σ 165 j = 0) (z165 : ∀ j : Int, σ 166 j = 0) (z166 : ∀ j : Int, σ 167 j = 0) (z167 : ∀ j : Int, σ 168 j = 0) (z168 : ∀ j : Int, σ 169 j = 0) (z169 : ∀ j : Int, σ 170 j = 0) (z170 : ∀ j : Int, σ 171 j = 0) (z171 : ∀ j : Int, σ 172 j = 0) (z172 : ∀ j : Int, σ 173 j = 0) (z173 : ∀ j : Int, σ 174 j = 0) (z174 : ∀ j : Int, σ 175 j = 0) (z175 : ∀ j : Int, σ 176 j = 0) (z176 : ∀ j : Int, σ 177 j = 0) (z177 : ∀ j : Int, σ 178 j = 0) (z178 : ∀ j : Int, σ 179 j = 0) (z179 : ∀ j : Int, σ 180 j = 0) (z180 : ∀ j : Int, σ 181 j = 0) (z181 : ∀ j : Int, σ 182 j = 0) (z182 : ∀ j : Int, σ 183 j = 0) (z183 : ∀ j : Int, σ 184 j = 0) (z184 : ∀ j : Int, σ 185 j = 0) (z185 : ∀ j : Int, σ 186 j = 0) (z186 : ∀ j : Int, σ 187 j = 0) (z187 : ∀ j : Int, σ 188 j = 0) (z188 : ∀ j : Int, σ 189 j = 0) (z189 : ∀ j : Int, σ 190 j = 0) (z190 : ∀ j : Int, σ 191 j = 0) (z191 : ∀ j : Int, σ 192 j = 0) (z192 : ∀ j : Int, σ 193 j = 0) (z193 : ∀ j : Int, σ 194 j = 0) (z194 : ∀ j : Int, σ 195 j = 0) (z195 : ∀ j : Int, σ 196 j = 0) (z196 : ∀ j : Int, σ 197 j = 0) (z197 : ∀ j : Int, σ 198 j = 0) (z198 : ∀ j : Int, σ 199 j = 0) (z199 : ∀ j : Int, σ 200 j = 0) (z200 : ∀ j : Int, σ 201 j = 0) (z201 : ∀ j : Int, σ 202 j = 0) (z202 : ∀ j : Int, σ 203 j = 0) (z203 : ∀ j : Int, σ 204 j = 0) (z204 : ∀ j : Int, σ 205 j = 0) (z205 : ∀ j : Int, σ 206 j = 0) (z206 : ∀ j : Int, σ 207 j = 0) (z207 : ∀ j : Int, σ 208 j = 0) (z208 : ∀ j : Int, σ 209 j = 0) (z209 : ∀ j : Int, σ 210 j = 0) (z210 : ∀ j : Int, σ 211 j = 0) (z211 : ∀ j : Int, σ 212 j = 0) (z212 : ∀ j : Int, σ 213 j = 0) (z213 : ∀ j : Int, σ 214 j = 0) (hro : ml_RO 214 (w_X11a σ)) (q : Q (w_X11 σ)) : f_X11_init σ Q := by
  unfold f_X11_init
  refine ⟨fun j => z1 j, ?_⟩
  refine s_X8_init (fun j => z2 j) ?_
  intro σ1 e1; subst e1
  refine ⟨fun j => z3 j, ?_⟩
  refine s_X0_init (fun j => z4 j) ?_
  intro σ1 e1; subst e1
  refine ⟨fun j => z5 j, ?_⟩
  refine s_X2_init (fun j => z6 j) ?_
  intro σ1 e1; subst e1
  refine ⟨fun j => z7 j, ?_⟩
  refine s_X4_init (fun j => z8 j) (fun j => z9 j) (fun j => z10 j) (fun j => z11 j) (fun j => z12 j) (fun j => z13 j) (fun j => z14 j) (fun j => z15 j) (fun j => z16 j) (fun j => z17 j) (fun j => z18 j) (fun j => z19 j) (fun j => z20 j) (fun j => z21 j) (fun j => z22 j) (fun j => z23 j) (fun j => z24 j) (fun j => z25 j) (fun j => z26 j) (fun j => z27 j) (fun j => z28 j) (fun j => z29 j) (fun j => z30 j) (fun j => z31 j) (fun j => z32 j) (fun j => z33 j) (fun j => z34 j) (fun j => z35 j) (fun j => z36 j) (fun j => z37 j) (fun j => z38 j) (fun j => z39 j) (fun j => z40 j) (fun j => z41 j) (fun j => z42 j) (fun j => z43 j) (fun j => z44 j) ?_
  intro σ1 e1; subst e1
  refine ⟨fun j => z45 j, ?_⟩
  refine s_X6_init (fun j => z46 j) (fun j => z47 j) (fun j => z48 j) (fun j => z49 j) (fun j => z50 j) (fun j => z51 j) (fun j => z52 j) (fun j => z53 j) ?_
  intro σ1 e1; subst e1
  refine ⟨fun j => z54 j, ?_⟩
  refine s_X7_init (fun j => z55 j) (fun j => z56 j) (fun j => z57 j) (fun j => z58 j) (fun j => z59 j) (fun j => z60 j) (fun j => z61 j) (fun j => z62 j) (fun j => z63 j) (fun j => z64 j) (fun j => z65 j) (fun j => z66 j) (fun j => z67 j) (fun j => z68 j) ?_
  intro σ1 e1; subst e1
  refine ⟨fun j => z69 j, ?_⟩
  refine s_X1_init (fun j => z70 j) (fun j => z71 j) (fun j => z72 j) (fun j => z73 j) (fun j => z74 j) ?_
  intro σ1 e1; subst e1
  refine ⟨fun j => z75 j, ?_⟩
  refine s_X5_init (fun j => z76 j) (fun j => z77 j) (fun j => z78 j) (fun j => z79 j) (fun j => z80 j) (fun j => z81 j) (fun j => z82 j) (fun j => z83 j) (fun j => z84 j) (fun j => z85 j) (fun j => z86 j) (fun j => z87 j) (fun j => z88 j) (fun j => z89 j) (fun j => z90 j) (fun j => z91 j) (fun j => z92 j) (fun j => z93 j) (fun j => z94 j) (fun j => z95 j) (fun j => z96 j) (fun j => z97 j) (fun j => z98 j) (fun j => z99 j) (fun j => z100 j) (fun j => z101 j) (fun j => z102 j) (fun j => z103 j) (fun j => z104 j) (fun j => z105 j) (fun j => z106 j) (fun j => z107 j) (fun j => z108 j) (fun j => z109 j) (fun j => z110 j) (fun j => z111 j) (fun j => z112 j) ?_
  intro σ1 e1; subst e1
  refine ⟨fun j => z113 j, ?_⟩
  intro σ1 e1; subst e1
  refine ⟨fun j => z114 j, ?_⟩
  intro σ1 e1; subst e1
  refine ⟨fun j => z115 j, ?_⟩
  refine s_X9_init (fun j => z116 j) (fun j => z117 j) ?_
  intro σ1 e1; subst e1
  intro σ1 e1; subst e1
  intro σ1 e1; subst e1
  refine ⟨rfl, ?_⟩
  refine ⟨fun j => z118 j, ?_⟩
  refine s_X10_init (fun j => z119 j) (fun j => z120 j) (fun j => z121 j) (fun j => z122 j) (fun j => z123 j) ?_
  intro σ1 e1; subst e1
  refine ⟨rfl, ?_⟩
  refine ⟨fun j => z124 j, ?_⟩
  refine s_X10_init (fun j => z125 j) (fun j => z126 j) (fun j => z127 j) (fun j => z128 j) (fun j => z129 j) ?_
  intro σ1 e1; subst e1
  refine ⟨rfl, ?_⟩
  refine ⟨fun j => z130 j, ?_⟩
  refine s_X10_init (fun j => z131 j) (fun j => z132 j) (fun j => z133 j) (fun j => z134 j) (fun j => z135 j) ?_
  intro σ1 e1; subst e1
  refine ⟨rfl, ?_⟩
  refine ⟨fun j => z136 j, ?_⟩
  refine s_X10_init (fun j => z137 j) (fun j => z138 j) (fun j => z139 j) (fun j => z140 j) (fun j => z141 j) ?_
  intro σ1 e1; subst e1
  refine ⟨rfl, ?_⟩
  refine ⟨fun j => z142 j, ?_⟩
  refine s_X10_init (fun j => z143 j) (fun j => z144 j) (fun j => z145 j) (fun j => z146 j) (fun j => z147 j) ?_
  intro σ1 e1; subst e1
  refine ⟨rfl, ?_⟩
  refine ⟨fun j => z148 j, ?_⟩
  refine s_X10_init (fun j => z149 j) (fun j => z150 j) (fun j => z151 j) (fun j => z152 j) (fun j => z153 j) ?_
  intro σ1 e1; subst e1
  refine ⟨rfl, ?_⟩
  refine ⟨fun j => z154 j, ?_⟩
  refine s_X10_init (fun j => z155 j) (fun j => z156 j) (fun j => z157 j) (fun j => z158 j) (fun j => z159 j) ?_
  intro σ1 e1; subst e1
  refine ⟨rfl, ?_⟩
  refine ⟨fun j => z160 j, ?_⟩
  refine s_X10_init (fun j => z161 j) (fun j => z162 j) (fun j => z163 j) (fun j => z164 j) (fun j => z165 j) ?_
  intro σ1 e1; subst e1
  refine ⟨rfl, ?_⟩
  refine ⟨fun j => z166 j, ?_⟩
  refine s_X10_init (fun j => z167 j) (fun j => z168 j) (fun j => z169 j) (fun j => z170 j) (fun j => z171 j) ?_
  intro σ1 e1; subst e1
  refine ⟨rfl, ?_⟩
  refine ⟨fun j => z172 j, ?_⟩
  refine s_X10_init (fun j => z173 j) (fun j => z174 j) (fun j => z175 j) (fun j => z176 j) (fun j => z177 j) ?_
  intro σ1 e1; subst e1
  refine ⟨rfl, ?_⟩
  refine ⟨fun j => z178 j, ?_⟩
  refine s_X10_init (fun j => z179 j) (fun j => z180 j) (fun j => z181 j) (fun j => z182 j) (fun j => z183 j) ?_
  intro σ1 e1; subst e1
  refine ⟨rfl, ?_⟩
  refine ⟨fun j => z184 j, ?_⟩
  refine s_X10_init (fun j => z185 j) (fun j => z186 j) (fun j => z187 j) (fun j => z188 j) (fun j => z189 j) ?_
  intro σ1 e1; subst e1
  refine ⟨rfl, ?_⟩
  refine ⟨fun j => z190 j, ?_⟩
  refine s_X10_init (fun j => z191 j) (fun j => z192 j) (fun j => z193 j) (fun j => z194 j) (fun j => z195 j) ?_
  intro σ1 e1; subst e1
  refine ⟨rfl, ?_⟩
  refine ⟨fun j => z196 j, ?_⟩
  refine s_X10_init (fun j => z197 j) (fun j => z198 j) (fun j => z199 j) (fun j => z200 j) (fun j => z201 j) ?_
  intro σ1 e1; subst e1
  refine ⟨rfl, ?_⟩
  refine ⟨fun j => z202 j, ?_⟩
  refine s_X10_init (fun j => z203 j) (fun j => z204 j) (fun j => z205 j) (fun j => z206 j) (fun j => z207 j) ?_
  intro σ1 e1; subst e1
  refine ⟨rfl, ?_⟩
  refine ⟨fun j => z208 j, ?_⟩
  refine s_X10_init (fun j => z209 j) (fun j => z210 j) (fun j => z211 j) (fun j => z212 j) (fun j => z213 j) ?_
  intro σ1 e1; subst e1
  refine ⟨rfl, ?_⟩
  intro _
  refine ⟨hro, ?_⟩
  refine s_goRound (h := 4) (by omega) (by omega) ?_
  exact q
def w_X12 (σ : ml_St) : ml_St := (ml_up (ml_up (ml_up (ml_up (ml_up (ml_up (ml_up (ml_up (ml_up (ml_up (ml_up (ml_up (ml_up (ml_up (ml_up (ml_up (ml_up (ml_up (ml_up (ml_up (ml_up (ml_up (ml_up (ml_up (ml_up (ml_up (ml_up (ml_up (ml_up (ml_up (ml_up (ml_up (ml_up (ml_up (ml_up (ml_up (ml_up (ml_up (ml_up (ml_up (ml_up (ml_up (ml_up (ml_up (ml_up (ml_up (ml_up (ml_up (ml_up (ml_up (ml_up (ml_up (ml_up (ml_up (ml_up (ml_up (ml_up (ml_up σ 215 0 216) 215 2 4) 215 5 217) 215 6 218) 215 7 219) 215 8 220) 215 13 221) 215 14 222) 215 15 223) 215 16 224) 215 17 225) 215 18 226) 215 21 227) 215 22 228) 215 23 229) 215 24 230) 215 25 231) 215 26 232) 215 28 233) 215 29 234) 215 30 235) 215 31 236) 215 40 237) 215 41 238) 215 42 239) 215 43 240) 215 44 241) 215 45 242) 215 46 243) 215 47 244) 215 48 245) 215 49 246) 215 50 247) 215 51 248) 215 52 249) 215 54 250) 215 55 251) 215 56 252) 215 57 253) 215 58 254) 215 59 255) 215 60 256) 220 0 1) 220 1 1) 220 2 1) 220 3 1) 220 4 1) 220 5 1) 220 6 1) 220 7 1) 220 8 1) 220 9 1) 220 10 1) 220 11 1) 220 12 1) 220 13 1) 220 14 1) 220 15 1)
set_option maxRecDepth 100000 in
set_option maxHeartbeats 4000000 in
theorem s_X12_init {σ : ml_St} {Q : ml_St → Prop} (z1 : ∀ j : Int, σ 216 j = 0) (z2 : ∀ j : Int, σ 217 j = 0) (z3 : ∀ j : Int, σ 218 j = 0) (z4 : ∀ j : Int, σ 219 j = 0) (z5 : ∀ j : Int, σ 220 j = 0) (z6 : ∀ j : Int, σ 221 j = 0) (z7 : ∀ j : Int, σ 222 j = 0) (z8 : ∀ j : Int, σ 223 j = 0) (z9 : ∀ j : Int, σ 224 j = 0) (z10 : ∀ j : Int, σ 225 j = 0) (z11 : ∀ j : Int, σ 226 j = 0) (z12 : ∀ j : Int, σ 227 j = 0) (z13 : ∀ j : Int, σ 228 j = 0) (z14 : ∀ j : Int, σ 229 j = 0) (z15 : ∀ j : Int, σ 230 j = 0) (z16 : ∀ j : Int, σ 231 j = 0) (z17 : ∀ j : Int, σ 232 j = 0) (z18 : ∀ j : Int, σ 233 j = 0) (z19 : ∀ j : Int, σ 234 j = 0) (z20 : ∀ j : Int, σ 235 j = 0) (z21 : ∀ j : Int, σ 236 j = 0) (z22 : ∀ j : Int, σ 237 j = 0) (z23 : ∀ j : Int, σ 238 j = 0) (z24 : ∀ j : Int, σ 239 j = 0) (z25 : ∀ j : Int, σ 240 j = 0) (z26 : ∀ j : Int, σ 241 j = 0) (z27 : ∀ j : Int, σ 242 j = 0) (z28 : ∀ j : Int, σ 243 j = 0) (z29 : ∀ j : Int, σ 244 j = 0) (z30 : ∀ j : Int, σ 245 j = 0) (z31 : ∀ j : Int, σ 246 j = 0) (z32 : ∀ j : Int, σ 247 j = 0) (z33 : ∀ j : Int, σ 248 j = 0) (z34 : ∀ j : Int, σ 249 j = 0) (z35 : ∀ j : Int, σ 250 j = 0) (z36 : ∀ j : Int, σ 251 j = 0) (z37 : ∀ j : Int, σ 252 j = 0) (z38 : ∀ j : Int, σ 253 j = 0) (z39 : ∀ j : Int, σ 254 j = 0) (z40 : ∀ j : Int, σ 255 j = 0) (z41 : ∀ j : Int, σ 256 j = 0) (q : Q (w_X12 σ)) : f_X12_init σ Q := by
  unfold f_X12_init
  refine ⟨fun j => z1 j, ?_⟩
  intro σ1 e1; subst e1
  intro σ1 e1; subst e1
  refine ⟨fun j => z2 j, ?_⟩
  intro σ1 e1; subst e1
  refine ⟨fun j => z3 j, ?_⟩
  intro σ1 e1; subst e1
  refine ⟨fun j => z4 j, ?_⟩
  intro σ1 e1; subst e1
  refine ⟨fun j => z5 j, ?_⟩
  intro σ1 e1; subst e1
  refine ⟨fun j => z6 j, ?_⟩
  intro σ1 e1; subst e1
  refine ⟨fun j => z7 j, ?_⟩
  intro σ1 e1; subst e1
  refine ⟨fun j => z8 j, ?_⟩
  intro σ1 e1; subst e1
  refine ⟨fun j => z9 j, ?_⟩
  intro σ1 e1; subst e1
  refine ⟨fun j => z10 j, ?_⟩
  intro σ1 e1; subst e1
  refine ⟨fun j => z11 j, ?_⟩
  intro σ1 e1; subst e1
  refine ⟨fun j => z12 j, ?_⟩
  intro σ1 e1; subst e1
  refine ⟨fun j => z13 j, ?_⟩
  intro σ1 e1; subst e1
  refine ⟨fun j => z14 j, ?_⟩
  intro σ1 e1; subst e1
  refine ⟨fun j => z15 j, ?_⟩
  intro σ1 e1; subst e1
  refine ⟨fun j => z16 j, ?_⟩
  intro σ1 e1; subst e1
  refine ⟨fun j => z17 j, ?_⟩
  intro σ1 e1; subst e1
  refine ⟨fun j => z18 j, ?_⟩
  intro σ1 e1; subst e1
  refine ⟨fun j => z19 j, ?_⟩
  intro σ1 e1; subst e1
  refine ⟨fun j => z20 j, ?_⟩
  intro σ1 e1; subst e1
  refine ⟨fun j => z21 j, ?_⟩
  intro σ1 e1; subst e1
  refine ⟨fun j => z22 j, ?_⟩
  intro σ1 e1; subst e1
  refine ⟨fun j => z23 j, ?_⟩
  intro σ1 e1; subst e1
  refine ⟨fun j => z24 j, ?_⟩
  intro σ1 e1; subst e1
  refine ⟨fun j => z25 j, ?_⟩
  intro σ1 e1; subst e1
  refine ⟨fun j => z26 j, ?_⟩
  intro σ1 e1; subst e1
  refine ⟨fun j => z27 j, ?_⟩
  intro σ1 e1; subst e1
  refine ⟨fun j => z28 j, ?_⟩
  intro σ1 e1; subst e1
  refine ⟨fun j => z29 j, ?_⟩
  intro σ1 e1; subst e1
  refine ⟨fun j => z30 j, ?_⟩
  intro σ1 e1; subst e1
  refine ⟨fun j => z31 j, ?_⟩
  intro σ1 e1; subst e1
  refine ⟨fun j => z32 j, ?_⟩
  intro σ1 e1; subst e1
  refine ⟨fun j => z33 j, ?_⟩
  intro σ1 e1; subst e1
  refine ⟨fun j => z34 j, ?_⟩
  intro σ1 e1; subst e1
  refine ⟨fun j => z35 j, ?_⟩
  intro σ1 e1; subst e1
  refine ⟨fun j => z36 j, ?_⟩
  intro σ1 e1; subst e1
  refine ⟨fun j => z37 j, ?_⟩
  intro σ1 e1; subst e1
  refine ⟨fun j => z38 j, ?_⟩
  intro σ1 e1; subst e1
  refine ⟨fun j => z39 j, ?_⟩
  intro σ1 e1; subst e1
  refine ⟨fun j => z40 j, ?_⟩
  intro σ1 e1; subst e1
  refine ⟨fun j => z41 j, ?_⟩
  intro σ1 e1; subst e1
  refine ⟨rfl, ?_⟩
  intro σ1 e1; subst e1
  refine ⟨rfl, ?_⟩
  intro σ1 e1; subst e1
  refine ⟨rfl, ?_⟩
  intro σ1 e1; subst e1
  refine ⟨rfl, ?_⟩
  intro σ1 e1; subst e1
  refine ⟨rfl, ?_⟩
  intro σ1 e1; subst e1
  refine ⟨rfl, ?_⟩
  intro σ1 e1; subst e1
  refine ⟨rfl, ?_⟩
  intro σ1 e1; subst e1
  refine ⟨rfl, ?_⟩
  intro σ1 e1; subst e1
  refine ⟨rfl, ?_⟩
  intro σ1 e1; subst e1
  refine ⟨rfl, ?_⟩
  intro σ1 e1; subst e1
  refine ⟨rfl, ?_⟩
  intro σ1 e1; subst e1
  refine ⟨rfl, ?_⟩
  intro σ1 e1; subst e1
  refine ⟨rfl, ?_⟩
  intro σ1 e1; subst e1
  refine ⟨rfl, ?_⟩
  intro σ1 e1; subst e1
  refine ⟨rfl, ?_⟩
  intro σ1 e1; subst e1
  refine ⟨rfl, ?_⟩
  intro σ1 e1; subst e1
  exact q
def ml_S0 : ml_St := fun _ _ => 0
def ml_S1 : ml_St := w_X11 ml_S0
def ml_S2 : ml_St := w_X12 ml_S1
theorem ml_rof_in {k j : Int} (h : ml_rof k j ≠ 0) : 0 ≤ j ∧ j < 62 := by
  unfold ml_rof ml_rofT at h
  split at h <;> (repeat (first | omega | split at h))

theorem ml_rof_lo {k j : Int} (h : ml_rof k j ≠ 0) (hk : k ≤ 214) (h1 : 1 ≤ k) : j < 16 := by
  have h2 := ml_rof_in h
  have h3 : ∀ i : Nat, i < 214 → ∀ t : Nat, t < 62 → 16 ≤ t → ml_rof ((i : Int) + 1) (t : Int) = 0 := by decide +kernel
  by_cases hj : j < 16
  · exact hj
  · have := h3 (k - 1).toNat (by omega) j.toNat (by omega) (by omega)
    rw [show (((k - 1).toNat : Nat) : Int) + 1 = k by omega, Int.toNat_of_nonneg h2.1] at this
    exact absurd this h
theorem ml_roA : ∀ i : Nat, i < 214 → ∀ t : Nat, t < 16 → ml_rof ((i : Int) + 1) (t : Int) = 0 ∨ w_X11a ml_S0 ((i : Int) + 1) (t : Int) = ml_rof ((i : Int) + 1) (t : Int) := by decide +kernel
theorem ml_RO1 : ml_RO 214 (w_X11a ml_S0) := by
  intro k j h1 h2 h3
  have h4 := ml_rof_in h3
  have h5 := ml_rof_lo h3 h2 h1
  have := ml_roA (k - 1).toNat (by omega) j.toNat (by omega)
  rw [show (((k - 1).toNat : Nat) : Int) + 1 = k by omega, Int.toNat_of_nonneg h4.1] at this
  rcases this with q | q
  · exact absurd q h3
  · exact q
theorem ml_roB : ∀ i : Nat, i < 214 → ∀ t : Nat, t < 16 → ml_rof ((i : Int) + 1) (t : Int) = 0 ∨ ml_S2 ((i : Int) + 1) (t : Int) = ml_rof ((i : Int) + 1) (t : Int) := by decide +kernel
theorem ml_roC : ∀ i : Nat, i < 42 → ∀ t : Nat, t < 62 → ml_rof ((i : Int) + 215) (t : Int) = 0 ∨ ml_S2 ((i : Int) + 215) (t : Int) = ml_rof ((i : Int) + 215) (t : Int) := by decide +kernel
theorem ml_RO2 : ml_RO 256 ml_S2 := by
  intro k j h1 h2 h3
  have h4 := ml_rof_in h3
  have q : ml_rof k j = 0 ∨ ml_S2 k j = ml_rof k j := by
    by_cases hk : k ≤ 214
    · have h5 := ml_rof_lo h3 hk h1
      have := ml_roB (k - 1).toNat (by omega) j.toNat (by omega)
      rwa [show (((k - 1).toNat : Nat) : Int) + 1 = k by omega, Int.toNat_of_nonneg h4.1] at this
    · have := ml_roC (k - 215).toNat (by omega) j.toNat (by omega)
      rwa [show (((k - 215).toNat : Nat) : Int) + 215 = k by omega, Int.toNat_of_nonneg h4.1] at this
  rcases q with q | q
  · exact absurd q h3
  · exact q
set_option maxRecDepth 100000 in
set_option maxHeartbeats 8000000 in
theorem s_both {Q : ml_St → Prop} (q : Q ml_S2) : (∀ j : Int, ml_S0 1 j = 0) ∧ f_X11_init ml_S0 (fun σ2 => (∀ j : Int, σ2 215 j = 0) ∧ f_X12_init σ2 Q) := by
  refine ⟨fun _ => rfl, s_X11_init (fun _ => rfl) (fun _ => rfl) (fun _ => rfl) (fun _ => rfl) (fun _ => rfl) (fun _ => rfl) (fun _ => rfl) (fun _ => rfl) (fun _ => rfl) (fun _ => rfl) (fun _ => rfl) (fun _ => rfl) (fun _ => rfl) (fun _ => rfl) (fun _ => rfl) (fun _ => rfl) (fun _ => rfl) (fun _ => rfl) (fun _ => rfl) (fun _ => rfl) (fun _ => rfl) (fun _ => rfl) (fun _ => rfl) (fun _ => rfl) (fun _ => rfl) (fun _ => rfl) (fun _ => rfl) (fun _ => rfl) (fun _ => rfl) (fun _ => rfl) (fun _ => rfl) (fun _ => rfl) (fun _ => rfl) (fun _ => rfl) (fun _ => rfl) (fun _ => rfl) (fun _ => rfl) (fun _ => rfl) (fun _ => rfl) (fun _ => rfl) (fun _ => rfl) (fun _ => rfl) (fun _ => rfl) (fun _ => rfl) (fun _ => rfl) (fun _ => rfl) (fun _ => rfl) (fun _ => rfl) (fun _ => rfl) (fun _ => rfl) (fun _ => rfl) (fun _ => rfl) (fun _ => rfl) (fun _ => rfl) (fun _ => rfl) (fun _ => rfl) (fun _ => rfl) (fun _ => rfl) (fun _ => rfl) (fun _ => rfl) (fun _ => rfl) (fun _ => rfl) (fun _ => rfl) (fun _ => rfl) (fun _ => rfl) (fun _ => rfl) (fun _ => rfl) (fun _ => rfl) (fun _ => rfl) (fun _ => rfl) (fun _ => rfl) (fun _ => rfl) (fun _ => rfl) (fun _ => rfl) (fun _ => rfl) (fun _ => rfl) (fun _ => rfl) (fun _ => rfl) (fun _ => rfl) (fun _ => rfl) (fun _ => rfl) (fun _ => rfl) (fun _ => rfl) (fun _ => rfl) (fun _ => rfl) (fun _ => rfl) (fun _ => rfl) (fun _ => rfl) (fun _ => rfl) (fun _ => rfl) (fun _ => rfl) (fun _ => rfl) (fun _ => rfl) (fun _ => rfl) (fun _ => rfl) (fun _ => rfl) (fun _ => rfl) (fun _ => rfl) (fun _ => rfl) (fun _ => rfl) (fun _ => rfl) (fun _ => rfl) (fun _ => rfl) (fun _ => rfl) (fun _ => rfl) (fun _ => rfl) (fun _ => rfl) (fun _ => rfl) (fun _ => rfl) (fun _ => rfl) (fun _ => rfl) (fun _ => rfl) (fun _ => rfl) (fun _ => rfl) (fun _ => rfl) (fun _ => rfl) (fun _ => rfl) (fun _ => rfl) (fun _ => rfl) (fun _ => rfl) (fun _ => rfl) (fun _ => rfl) (fun _ => rfl) (fun _ => rfl) (fun _ => rfl) (fun _ => rfl) (fun _ => rfl) (fun _ => rfl) (fun _ => rfl) (fun _ => rfl) (fun _ => rfl) (fun _ => rfl) (fun _ => rfl) (fun _ => rfl) (fun _ => rfl) (fun _ => rfl) (fun _ => rfl) (fun _ => rfl) (fun _ => rfl) (fun _ => rfl) (fun _ => rfl) (fun _ => rfl) (fun _ => rfl) (fun _ => rfl) (fun _ => rfl) (fun _ => rfl) (fun _ => rfl) (fun _ => rfl) (fun _ => rfl) (fun _ => rfl) (fun _ => rfl) (fun _ => rfl) (fun _ => rfl) (fun _ => rfl) (fun _ => rfl) (fun _ => rfl) (fun _ => rfl) (fun _ => rfl) (fun _ => rfl) (fun _ => rfl) (fun _ => rfl) (fun _ => rfl) (fun _ => rfl) (fun _ => rfl) (fun _ => rfl) (fun _ => rfl) (fun _ => rfl) (fun _ => rfl) (fun _ => rfl) (fun _ => rfl) (fun _ => rfl) (fun _ => rfl) (fun _ => rfl) (fun _ => rfl) (fun _ => rfl) (fun _ => rfl) (fun _ => rfl) (fun _ => rfl) (fun _ => rfl) (fun _ => rfl) (fun _ => rfl) (fun _ => rfl) (fun _ => rfl) (fun _ => rfl) (fun _ => rfl) (fun _ => rfl) (fun _ => rfl) (fun _ => rfl) (fun _ => rfl) (fun _ => rfl) (fun _ => rfl) (fun _ => rfl) (fun _ => rfl) (fun _ => rfl) (fun _ => rfl) (fun _ => rfl) (fun _ => rfl) (fun _ => rfl) (fun _ => rfl) (fun _ => rfl) (fun _ => rfl) (fun _ => rfl) (fun _ => rfl) (fun _ => rfl) (fun _ => rfl) (fun _ => rfl) (fun _ => rfl) (fun _ => rfl) (fun _ => rfl) (fun _ => rfl) (fun _ => rfl) (fun _ => rfl) (fun _ => rfl) ml_RO1 ?_⟩
  exact ⟨fun _ => rfl, s_X12_init (fun _ => rfl) (fun _ => rfl) (fun _ => rfl) (fun _ => rfl) (fun _ => rfl) (fun _ => rfl) (fun _ => rfl) (fun _ => rfl) (fun _ => rfl) (fun _ => rfl) (fun _ => rfl) (fun _ => rfl) (fun _ => rfl) (fun _ => rfl) (fun _ => rfl) (fun _ => rfl) (fun _ => rfl) (fun _ => rfl) (fun _ => rfl) (fun _ => rfl) (fun _ => rfl) (fun _ => rfl) (fun _ => rfl) (fun _ => rfl) (fun _ => rfl) (fun _ => rfl) (fun _ => rfl) (fun _ => rfl) (fun _ => rfl) (fun _ => rfl) (fun _ => rfl) (fun _ => rfl) (fun _ => rfl) (fun _ => rfl) (fun _ => rfl) (fun _ => rfl) (fun _ => rfl) (fun _ => rfl) (fun _ => rfl) (fun _ => rfl) (fun _ => rfl) q⟩
