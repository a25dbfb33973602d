/-! the model: ends, shortest -/
/-- the model's queue: the ways in it, each come from none or from an earlier one -/
def cm_s (nl c : Int) (σ : ml_St) (tail : Nat) (P U V : Nat → Int) : Prop := σ 215 53 + 1 = tail ∧ (∀ i : Nat, i + 1 < tail → 1 ≤ P (i + 1) ∧ σ 247 i = 4 * (P (i + 1) - 1) + U (i + 1) ∧ σ 246 (σ 247 i) ≠ 0 ∧ ∃ j' : Nat, j' ≤ i ∧ 0 ≤ σ 249 (σ 247 i) ∧ σ 249 (σ 247 i) < nl ∧ V (i + 1) = 7 * V j' + σ 249 (σ 247 i) + 1 ∧ σ 248 (σ 247 i) = if j' = 0 then -1 else σ 247 ((j' : Int) - 1)) ∧ (∀ s, 0 ≤ s → s < 4 * c → σ 246 s ≠ 0 → ∃ i : Nat, i + 1 < tail ∧ s = σ 247 i) ∧ ∀ i j : Nat, i < j → j + 1 < tail → σ 247 i ≠ σ 247 j
theorem cm_room {nl c : Int} {σ : ml_St} {tail : Nat} {P U V : Nat → Int} (s : cm_s nl c σ tail P U V) (r : ∀ i : Nat, i + 1 < tail → 0 ≤ σ 247 i ∧ σ 247 i < 3780) : tail ≤ 3781 := by
  by_cases z : tail ≤ 3781
  · exact z
  · obtain ⟨i, j, hij, hj, e⟩ := mt_ph 3780 (fun i => σ 247 i) (fun i hi => by have := r i (by omega); exact ⟨this.1, by show σ 247 i < _; omega⟩)
    exact absurd e (s.2.2.2 i j hij (by omega))
/-- the way back from a way: m letters, the word v -/
def cm_t (nl : Int) (σ : ml_St) : Nat → Int → Int → Prop
  | 0, s, v => s = -1 ∧ v = 0
  | m + 1, s, v => 0 ≤ s ∧ s < 3800 ∧ 0 ≤ σ 249 s ∧ σ 249 s < nl ∧ ∃ v', v = 7 * v' + σ 249 s + 1 ∧ cm_t nl σ m (σ 248 s) v'
theorem cm_t_m {nl : Int} {σ : ml_St} {nx e : Int → Int → Int} (n : ∀ m v p l, mz_w nl nx e m v p l → 0 ≤ v) (L6 : nl ≤ 6) : ∀ (m m' : Nat) (s v p q : Int), cm_t nl σ m s v → mz_w nl nx e m' v p q → m = m' := by
  have pos : ∀ (m : Nat) (s v : Int), cm_t nl σ m s v → 0 ≤ v := by
    intro m
    induction m with
    | zero => intro s v h; have := h.2; omega
    | succ m ih => intro s v h; obtain ⟨-, -, a0, a1, v', e, h⟩ := h; have := ih _ _ h; omega
  intro m
  induction m with
  | zero =>
    intro m' s v p q h h'
    have h0 := h.2
    cases m' with
    | zero => rfl
    | succ m' =>
      obtain ⟨v1, p1, l1, a, h1, a0, a1, h2, -⟩ := h'
      have := n _ _ _ _ h1
      omega
  | succ m ih =>
    intro m' s v p q h h'
    obtain ⟨s1, s2, a0, a1, v1, h2, h1⟩ := h
    have x1 := pos _ _ _ h1
    cases m' with
    | zero => have := h'.1; omega
    | succ m' =>
      obtain ⟨v2, p2, l2, b, h3, b0, b1, h4, -⟩ := h'
      have x2 := n _ _ _ _ h3
      have : v1 = v2 := by omega
      subst this
      rw [ih m' _ v1 p2 l2 h1 h3]
theorem cm_t_of {nl c : Int} {σ : ml_St} {tail : Nat} {P U V : Nat → Int} (s : cm_s nl c σ tail P U V) (r : ∀ i : Nat, i + 1 < tail → 0 ≤ σ 247 i ∧ σ 247 i < 3780) (v0 : V 0 = 0) : ∀ (b i : Nat), i ≤ b → i + 1 < tail → ∃ m : Nat, m ≤ i + 1 ∧ cm_t nl σ m (σ 247 i) (V (i + 1)) := by
  intro b
  induction b with
  | zero =>
    intro i hb hi
    obtain ⟨-, -, -, j', y1, y2, y3, y4, y5⟩ := s.2.1 i hi
    obtain ⟨r1, r2⟩ := r i hi
    have : j' = 0 := by omega
    subst this
    rw [if_pos rfl] at y5
    exact ⟨1, by omega, r1, by omega, y2, y3, V 0, y4, y5, v0⟩
  | succ b ih =>
    intro i hb hi
    obtain ⟨-, -, -, j', y1, y2, y3, y4, y5⟩ := s.2.1 i hi
    obtain ⟨r1, r2⟩ := r i hi
    cases j' with
    | zero =>
      rw [if_pos rfl] at y5
      exact ⟨1, by omega, r1, by omega, y2, y3, V 0, y4, y5, v0⟩
    | succ j =>
      rw [if_neg (by omega), show ((j + 1 : Nat) : Int) - 1 = (j : Int) by omega] at y5
      obtain ⟨m, m1, m2⟩ := ih j (by omega) (by omega)
      exact ⟨m + 1, by omega, r1, by omega, y2, y3, V (j + 1), y4, by rw [y5]; exact m2⟩
theorem s_comes {K : ml_St → Prop} {c nl x fr i : Int} {X e : Int → Int → Int} {tail hd : Nat} {P U V : Nat → Int} {σ : ml_St} (c0 : 0 ≤ c) (c1 : c ≤ 945) (L6 : nl ≤ 6) (zn : mz_n nl (c + 1) X e) (q : mz_q 4 nl (c + 1) X e tail hd i P U V) (s : cm_s nl c σ tail P U V) (ht : hd < tail) (i0 : 0 ≤ i) (i1 : i < nl) (hb : U hd + e (P hd) i < 4) (hx : x = 4 * (X (P hd) i - 1) + (U hd + e (P hd) i)) (hf : fr = if hd = 0 then -1 else σ 247 ((hd : Int) - 1)) (k : ∀ (tail' : Nat) P' U' V' σ', (∀ j, j ≠ 215 → j ≤ 245 → σ' j = σ j) → (∀ b, b ≠ 53 → σ' 215 b = σ 215 b) → tail ≤ tail' → (∀ j : Nat, j < tail → P' j = P j ∧ U' j = U j ∧ V' j = V j) → (∀ i : Nat, i + 1 < tail → σ' 247 i = σ 247 i) → mz_q 4 nl (c + 1) X e tail' hd (i + 1) P' U' V' → cm_s nl c σ' tail' P' U' V' → K σ') : f_X12_comes σ x fr i K := by
  have rg : ∀ {σ : ml_St} {tail : Nat} {P U V : Nat → Int} {hd : Nat} {i : Int}, mz_q 4 nl (c + 1) X e tail hd i P U V → cm_s nl c σ tail P U V → ∀ i : Nat, i + 1 < tail → 0 ≤ σ 247 i ∧ σ 247 i < 3780 := fun q s i hi => by
    obtain ⟨b0, b1, b2, b3, -⟩ := q.2.2.1 (i + 1) hi
    obtain ⟨z1, z2, -⟩ := s.2.1 i hi
    omega
  have room := cm_room s (rg q s)
  obtain ⟨a0, a1, u0, u1, -⟩ := q.2.2.1 hd ht
  obtain ⟨n1, n2, n3⟩ := zn (P hd) i a0 a1 i0 i1
  unfold f_X12_comes f_X12_comes_u0
  refine ⟨by omega, by omega, fun _ => ⟨fun z => ⟨by omega, by omega, fun σ3 s3 => ⟨by omega, by omega, fun σ4 s4 => ⟨by omega, by omega, fun σ5 s5 => ?_⟩⟩⟩, fun z => ?_⟩⟩
  rotate_left
  · refine k tail P U V σ (fun _ _ _ => rfl) (fun _ _ => rfl) (Nat.le_refl _) (fun _ _ => ⟨rfl, rfl, rfl⟩) (fun _ _ => rfl) (mz_q_skip q ht (fun _ => ?_)) s
    obtain ⟨j, j1, j2⟩ := s.2.2.1 x (by omega) (by omega) z
    obtain ⟨z1, z2, -⟩ := s.2.1 j j1
    obtain ⟨b0, b1, b2, b3, -⟩ := q.2.2.1 (j + 1) j1
    exact ⟨j + 1, j1, by omega, by omega⟩
  have t53 := s.1
  have e53 : σ5 215 53 = (tail : Int) - 1 := by rw [s5, ml_up_k (by omega), s4, ml_up_k (by omega), s3, ml_up_k (by omega)]; omega
  rw [e53]
  obtain ⟨t', rfl⟩ : ∃ t', tail = t' + 1 := ⟨tail - 1, by have := q.1; omega⟩
  rw [show ((t' + 1 : Nat) : Int) - 1 = (t' : Int) by omega]
  rw [show ((t' + 1 : Nat) : Int) - 1 = (t' : Int) by omega] at e53
  refine fun _ => ⟨by omega, by omega, fun σ7 s7 => ?_⟩
  have e7 : σ7 215 53 = t' := by rw [s7, ml_up_k (by omega), e53]
  rw [e7]
  refine fun _ => ⟨mt_I (by omega) (by omega), fun σ10 s10 => ?_⟩
  have nx : ∀ i : Nat, i + 1 < t' + 1 → σ 247 i ≠ x := fun i hi e => (s.2.1 i hi).2.2.1 (by rw [e]; exact z)
  have a246 : ∀ p, σ10 246 p = if p = x then 1 else σ 246 p := fun p => by
    rw [s10, ml_up_k (by omega), s7, ml_up_k (by omega), s5, ml_up_k (by omega), s4, ml_up_k (by omega), s3]
    by_cases w : p = x
    · rw [if_pos w, w, ml_up_same]
    · rw [if_neg w, ml_up_i w]
  have a248 : ∀ p, σ10 248 p = if p = x then fr else σ 248 p := fun p => by
    rw [s10, ml_up_k (by omega), s7, ml_up_k (by omega), s5, ml_up_k (by omega), s4]
    by_cases w : p = x
    · rw [if_pos w, w, ml_up_same]
    · rw [if_neg w, ml_up_i w, s3, ml_up_k (by omega)]
  have a249 : ∀ p, σ10 249 p = if p = x then i else σ 249 p := fun p => by
    rw [s10, ml_up_k (by omega), s7, ml_up_k (by omega), s5]
    by_cases w : p = x
    · rw [if_pos w, w, ml_up_same]
    · rw [if_neg w, ml_up_i w, s4, ml_up_k (by omega), s3, ml_up_k (by omega)]
  have a247 : ∀ p, σ10 247 p = if p = (t' : Int) then x else σ 247 p := fun p => by
    rw [s10, ml_up_k (by omega), s7]
    by_cases w : p = (t' : Int)
    · rw [if_pos w, w, ml_up_same]
    · rw [if_neg w, ml_up_i w, s5, ml_up_k (by omega), s4, ml_up_k (by omega), s3, ml_up_k (by omega)]
  have b247 : ∀ i : Nat, i < t' → σ10 247 i = σ 247 i := fun i hi => by rw [a247, if_neg (by omega)]
  have bq : σ10 247 (t' : Int) = x := by rw [a247, if_pos rfl]
  have iP : ∀ (g : Nat → Int) (w : Int) (j : Nat), j < t' + 1 → (fun j : Nat => if j = t' + 1 then w else g j) j = g j := fun g w j hj => if_neg (by omega)
  have iT : ∀ (g : Nat → Int) (w : Int), (fun j : Nat => if j = t' + 1 then w else g j) (t' + 1) = w := fun g w => if_pos rfl
  have Q2 := mz_q_push (P' := fun j : Nat => if j = t' + 1 then X (P hd) i else P j) (U' := fun j : Nat => if j = t' + 1 then U hd + e (P hd) i else U j) (V' := fun j : Nat => if j = t' + 1 then 7 * V hd + i + 1 else V j) zn q ht i0 i1 L6 hb (iP P _) (iP U _) (iP V _) (iT P _) (iT U _) (iT V _)
  generalize hP2 : (fun j : Nat => if j = t' + 1 then X (P hd) i else P j) = P2 at Q2
  generalize hU2 : (fun j : Nat => if j = t' + 1 then U hd + e (P hd) i else U j) = U2 at Q2
  generalize hV2 : (fun j : Nat => if j = t' + 1 then 7 * V hd + i + 1 else V j) = V2 at Q2
  have P2a : ∀ j : Nat, j < t' + 1 → P2 j = P j := fun j hj => by rw [← hP2]; exact iP P _ j hj
  have U2a : ∀ j : Nat, j < t' + 1 → U2 j = U j := fun j hj => by rw [← hU2]; exact iP U _ j hj
  have V2a : ∀ j : Nat, j < t' + 1 → V2 j = V j := fun j hj => by rw [← hV2]; exact iP V _ j hj
  have P2t : P2 (t' + 1) = X (P hd) i := by rw [← hP2]; exact iT P _
  have U2t : U2 (t' + 1) = U hd + e (P hd) i := by rw [← hU2]; exact iT U _
  have V2t : V2 (t' + 1) = 7 * V hd + i + 1 := by rw [← hV2]; exact iT V _
  refine k (t' + 1 + 1) P2 U2 V2 σ10 (fun j h1 h2 => by rw [s10, ml_up_k h1, s7, ml_up_k (by omega), s5, ml_up_k (by omega), s4, ml_up_k (by omega), s3, ml_up_k (by omega)]) (fun b hb => by rw [s10, ml_up_i hb, s7, ml_up_k (by omega), s5, ml_up_k (by omega), s4, ml_up_k (by omega), s3, ml_up_k (by omega)]) (by omega) (fun j hj => ⟨P2a j hj, U2a j hj, V2a j hj⟩) (fun i hi => b247 i (by omega)) Q2 ⟨by rw [s10, ml_up_same]; omega, fun j hj => ?_, fun p p0 p1 hp => ?_, fun a b ab hb => ?_⟩
  · by_cases w : j = t'
    · subst w
      rw [bq, a246, a248, a249, if_pos rfl, if_pos rfl, if_pos rfl, P2t, U2t, V2t]
      refine ⟨n1, hx, by omega, hd, by omega, i0, i1, by rw [V2a hd ht], ?_⟩
      rw [hf]
      by_cases g : hd = 0
      · rw [if_pos g, if_pos g]
      · rw [if_neg g, if_neg g]
        have := b247 (hd - 1) (by omega)
        rw [show (((hd - 1 : Nat)) : Int) = (hd : Int) - 1 by omega] at this
        exact this.symm
    · have jt : j < t' := by omega
      obtain ⟨y1, y2, y3, j', y4, y5, y6, y7, y8⟩ := s.2.1 j (by omega)
      have nj := nx j (by omega)
      rw [b247 j jt, a246, a248, a249, if_neg nj, if_neg nj, if_neg nj, P2a (j + 1) (by omega), U2a (j + 1) (by omega), V2a (j + 1) (by omega)]
      refine ⟨y1, y2, y3, j', y4, y5, y6, by rw [V2a j' (by omega)]; exact y7, ?_⟩
      rw [y8]
      by_cases g : j' = 0
      · rw [if_pos g, if_pos g]
      · rw [if_neg g, if_neg g]
        have := b247 (j' - 1) (by omega)
        rw [show (((j' - 1 : Nat)) : Int) = (j' : Int) - 1 by omega] at this
        exact this.symm
  · rw [a246] at hp
    by_cases w : p = x
    · exact ⟨t', by omega, by rw [bq]; exact w⟩
    · rw [if_neg w] at hp
      obtain ⟨j, j1, j2⟩ := s.2.2.1 p p0 p1 hp
      exact ⟨j, by omega, by rw [b247 j (by omega)]; exact j2⟩
  · by_cases w : b = t'
    · subst w; rw [bq, b247 a ab]; exact nx a (by omega)
    · rw [b247 a (by omega), b247 b (by omega)]; exact s.2.2.2 a b ab (by omega)
theorem s_ends {K : Int → ml_St → Prop} {h told ts cap nl x : Int} {tb cl pr sz : Int → Int} {T : Int → Int → Int} {τ0 σ0 : ml_St} {F : Nat → Int → Int} {c : Nat} {X e : Int → Int → Int} {cT : Int → Int} (J0 : mq_J h told ts cap tb cl pr sz T τ0 nl F c σ0) (zn : mz_n nl ((c : Int) + 1) X e) (hX0 : ∀ a, X 0 a = σ0 242 a + 1) (hXs : ∀ s a, 0 ≤ s → X (s + 1) a = σ0 240 (6 * s + a) + 1) (he0 : ∀ a, 0 ≤ a → a < nl → σ0 229 (σ0 237 a) = e 0 a) (hes : ∀ s a, 0 ≤ s → s < (c : Int) → 0 ≤ a → a < nl → σ0 241 (6 * s + a) = min (e (s + 1) a) 4) (hcl : ∀ s, 0 ≤ s → s < (c : Int) → σ0 243 s = cT (s + 1) ∧ 1 ≤ cT (s + 1)) (x3 : x ≤ 3) (k0 : ∀ σ, mq_J h told ts cap tb cl pr sz T τ0 nl F c σ → mz_N nl X e cT x → K (-1) σ) (k1 : ∀ σ s (m : Nat) V, mq_J h told ts cap tb cl pr sz T τ0 nl F c σ → σ 237 = σ0 237 → mz_M nl X e cT x m V → 0 ≤ s → m ≤ 3790 → cm_t nl σ m s V → K s σ) : f_X12_ends σ0 x K := by
  have JK : ∀ (σ σ' : ml_St), (∀ j, j ≠ 215 → j ≤ 245 → σ' j = σ j) → (∀ b, b ≠ 53 → σ' 215 b = σ 215 b) → mq_J h told ts cap tb cl pr sz T τ0 nl F c σ → mq_J h told ts cap tb cl pr sz T τ0 nl F c σ' := fun σ σ' f b J => mq_J_k (fun j h1 h2 => f j h1 (by omega)) (fun b' hb => b b' (by omega)) J
  have b2 := (mq_J_b J0).2.1
  have nl6 := (mq_J_b J0).2.2.2.2.1
  have c0 : 0 ≤ (c : Int) := by omega
  have P0 : 1 ≤ (c : Int) + 1 := by omega
  have wr := mz_w_r P0 zn
  have wv : ∀ m v p l, mz_w nl X e m v p l → 0 ≤ v := fun m v p l h => (wr m v p l h).2.2.2
  have sat : ∀ (m : Nat) (v p l : Int), mz_w nl X e (m + 1) v p l → l + cT p = x → l < 4 ∧ 1 ≤ p := fun m v p l h hx => by
    obtain ⟨r1, r2, r3, r4⟩ := wr _ _ _ _ h
    obtain ⟨v', p', l', a, h1, a0, a1, h2, h3, h4⟩ := h
    have q := wr _ _ _ _ h1
    have := (zn p' a q.1 q.2.1 a0 a1).1
    have := hcl (p - 1) (by omega) (by omega)
    rw [show p - 1 + 1 = p by omega] at this
    omega
  have rg : ∀ {σ : ml_St} {tail : Nat} {P U V : Nat → Int} {hd : Nat} {i : Int}, mz_q 4 nl ((c : Int) + 1) X e tail hd i P U V → cm_s nl c σ tail P U V → ∀ i : Nat, i + 1 < tail → 0 ≤ σ 247 i ∧ σ 247 i < 3780 := fun q s i hi => by
    obtain ⟨b0, b1, b2, b3, -⟩ := q.2.2.1 (i + 1) hi
    obtain ⟨z1, z2, -⟩ := s.2.1 i hi
    omega
  -- the queue is gone through
  have W : ∀ (N : Nat) (p tail : Nat) (σ : ml_St) (P U V : Nat → Int), p + 1 ≤ tail → 3782 - (p : Int) < N → mq_J h told ts cap tb cl pr sz T τ0 nl F c σ → (∀ j, j ≠ 215 → j ≤ 245 → σ j = σ0 j) → mz_q 4 nl ((c : Int) + 1) X e tail (p + 1) 0 P U V → cm_s nl c σ tail P U V → (∀ j : Nat, 1 ≤ j → j < p + 1 → U j + cT (P j) ≠ x) → f_X12_ends_u93 K (f_X12_ends_u124 K) (f_X12_ends_u202 K) N σ x p := by
    intro N
    induction N with
    | zero => intro p tail σ P U V pq hN J f q s; have := cm_room s (rg q s); omega
    | succ N ih =>
      intro p tail σ P U V pq hN J f q s ns
      have t0 := cm_room s (rg q s)
      have s1 := s.1
      obtain ⟨b1, b2, b3, b4, b5, b6, b7⟩ := mq_J_b J
      unfold f_X12_ends_u93
      refine fun _ => ⟨fun q0 => ?_, fun q1 => ⟨by omega, by omega, fun _ y4 e4 => ?_⟩⟩
      · unfold f_X12_ends_u202
        refine k0 σ J (fun m v p' l h hx => ?_)
        obtain ⟨z1, z2⟩ := sat m v p' l h hx
        obtain ⟨j, j1, j2, j3, j4⟩ := mz_cov P0 zn q (by omega) _ v p' l h z1 (fun z => by omega)
        have : j ≠ 0 := fun z => by rw [z, q.2.1.1] at j2; omega
        exact ns j (by omega) (by omega) (by rw [j2, j3]; exact hx)
      have pt : p + 1 < tail := by omega
      obtain ⟨w1, w2, w3, -⟩ := s.2.1 p pt
      obtain ⟨a0, a1, u0, u1, -⟩ := q.2.2.1 (p + 1) pt
      rw [w2] at e4
      generalize hp1 : P (p + 1) = p1 at *
      generalize hu1 : U (p + 1) = u at *
      have e1 : Int.tmod y4 4 = u := by rw [Int.tmod_eq_emod_of_nonneg (by omega)]; omega
      have e2 : Int.tdiv y4 4 = p1 - 1 := by rw [Int.tdiv_eq_ediv_of_nonneg (by omega)]; omega
      obtain ⟨g1, g2⟩ := hcl (p1 - 1) (by omega) (by omega)
      rw [show p1 - 1 + 1 = p1 by omega] at g1 g2
      rw [e1, e2, f 243 (by omega) (by omega), g1]
      have c6 := b6 (p1 - 1) (by omega) (by omega)
      rw [f 243 (by omega) (by omega), g1] at c6
      refine ⟨by omega, mt_I (by omega) (by omega), by omega, mt_I (by omega) (by omega), by omega, by omega, fun _ => ⟨mt_I (by omega) (by omega), fun nsx => ⟨7, ?_⟩, fun sx => ?_⟩⟩
      · have I : ∀ (M : Nat) (l : Int) (tail : Nat) (σ : ml_St) (P U V : Nat → Int), p + 1 < tail → 0 ≤ l → l ≤ nl → nl - l < M → mq_J h told ts cap tb cl pr sz T τ0 nl F c σ → (∀ j, j ≠ 215 → j ≤ 245 → σ j = σ0 j) → mz_q 4 nl ((c : Int) + 1) X e tail (p + 1) l P U V → cm_s nl c σ tail P U V → (∀ j : Nat, 1 ≤ j → j < p + 1 + 1 → U j + cT (P j) ≠ x) → P (p + 1) = p1 → U (p + 1) = u → σ 247 p = y4 → f_X12_ends_u129 K (f_X12_ends_u196 K (f_X12_ends_u93 K (f_X12_ends_u124 K) (f_X12_ends_u202 K) N)) M σ x p y4 l := by
          intro M
          induction M with
          | zero => intro l tail σ P U V pq l0 l1 hM; omega
          | succ M ihl =>
            intro l tail σ P U V pt l0 l1 hM J f q s ns hp1 hu1 ey
            obtain ⟨b1, b2, b3, b4, b5, b6, b7⟩ := mq_J_b J
            unfold f_X12_ends_u129
            rw [b3, e1, e2]
            have NX : ∀ (tail : Nat) σ (P U V : Nat → Int), l < nl → p + 1 < tail → mq_J h told ts cap tb cl pr sz T τ0 nl F c σ → (∀ j, j ≠ 215 → j ≤ 245 → σ j = σ0 j) → mz_q 4 nl ((c : Int) + 1) X e tail (p + 1) (l + 1) P U V → cm_s nl c σ tail P U V → (∀ j : Nat, 1 ≤ j → j < p + 1 + 1 → U j + cT (P j) ≠ x) → P (p + 1) = p1 → U (p + 1) = u → σ 247 p = y4 → f_X12_ends_u190 K (f_X12_ends_u129 K (f_X12_ends_u196 K (f_X12_ends_u93 K (f_X12_ends_u124 K) (f_X12_ends_u202 K) N)) M) σ x p y4 l := fun tail σ P U V ll pt J f q s ns hp1 hu1 ey => by
              unfold f_X12_ends_u190
              refine ⟨mt_I (by omega) (by omega), fun y e => ?_⟩
              subst e
              exact ihl (l + 1) tail σ P U V pt (by omega) (by omega) (by omega) J f q s ns hp1 hu1 ey
            refine fun _ => ⟨fun q2 => ?_, fun q3 => ⟨by omega, mt_I (by omega) (by omega), by omega, mt_I (by omega) (by omega), mt_I (by omega) (by omega), mt_I (by omega) (by omega), by omega, by omega, ?_⟩⟩
            · unfold f_X12_ends_u196
              refine ⟨mt_I (by omega) (by omega), fun y e => ?_⟩
              have e : y = ((p + 1 : Nat) : Int) := by omega
              have el : l = nl := by omega
              rw [el] at q
              rw [e]
              exact ih (p + 1) tail σ P U V (by omega) (by omega) J f (mz_q_next nl6 q pt) s ns
            have ll : l < nl := by omega
            have h241 := hes (p1 - 1) l (by omega) (by omega) l0 ll
            have h240 := hXs (p1 - 1) l (by omega)
            rw [show p1 - 1 + 1 = p1 by omega] at h241 h240
            obtain ⟨n1, n2, n3⟩ := zn p1 l (by omega) (by omega) l0 ll
            rw [f 241 (by omega) (by omega), f 240 (by omega) (by omega), h241]
            generalize hE : e p1 l = E at *
            generalize hY : X p1 l = Y at *
            refine fun _ => ⟨mt_I (by omega) (by omega), fun y9 e9 => ⟨fun q4 => NX tail σ P U V ll pt J f (mz_q_skip q pt (fun hh => ?_)) s ns hp1 hu1 ey, fun q4 => ⟨by omega, mt_I (by omega) (by omega), mt_I (by omega) (by omega), mt_I (by omega) (by omega), by omega, by omega, fun _ => ⟨mt_I (by omega) (by omega), mt_I (by omega) (by omega), ?_⟩⟩⟩⟩
            · rw [hp1, hu1, hE] at hh; omega
            · refine s_comes (c := c) (nl := nl) (hd := p + 1) c0 (by omega) nl6 zn q s pt l0 ll (by rw [hp1, hu1, hE]; omega) (by rw [hp1, hu1, hE, hY]; omega) (by rw [if_neg (by omega), show ((p + 1 : Nat) : Int) - 1 = (p : Int) by omega]; exact ey.symm) (fun tail' P' U' V' σ' f' fb tt pp fq q' s' => NX tail' σ' P' U' V' ll (by omega) (JK σ σ' f' fb J) (fun j h1 h2 => by rw [f' j h1 h2, f j h1 h2]) q' s' (fun j j1 j2 => ?_) (by rw [(pp (p + 1) pt).1, hp1]) (by rw [(pp (p + 1) pt).2.1, hu1]) (by rw [fq p pt]; exact ey))
              rw [(pp j (by omega)).1, (pp j (by omega)).2.1]
              exact ns j j1 j2
        refine I 7 0 tail σ P U V pt (by omega) b4 (by omega) J f q s (fun j j1 j2 => ?_) hp1 hu1 (by rw [e4]; exact w2)
        by_cases z : j = p + 1
        · rw [z, hp1, hu1]; exact nsx
        · exact ns j j1 (by omega)
      · unfold f_X12_ends_u124
        obtain ⟨m, m1, m2⟩ := cm_t_of s (rg q s) q.2.1.2.2 p p (Nat.le_refl p) pt
        obtain ⟨-, -, -, -, m', m3, m4⟩ := q.2.2.1 (p + 1) pt
        have mm := cm_t_m wv nl6 m m' _ _ _ _ m2 m4
        rw [← mm] at m4
        have e4' : σ 247 p = y4 := by rw [e4]; exact w2
        rw [e4'] at m2
        refine k1 σ y4 m (V (p + 1)) J (by rw [f 237 (by omega) (by omega)]) ⟨?_, ⟨_, _, m4, by rw [hp1, hu1]; exact sx⟩, fun m9 v p' l h hx => ?_⟩ (by omega) (by omega) m2
        · cases m with
          | zero => have := m2.1; omega
          | succ m => omega
        · rcases Int.lt_or_le v (V (p + 1)) with z | z
          · exfalso
            obtain ⟨z1, z2⟩ := sat m9 v p' l h hx
            have v0 := wv _ _ _ _ m4
            obtain ⟨j, j1, j2, j3, j4⟩ := mz_cov P0 zn q (by omega) _ v p' l h z1 (fun _ => by omega)
            have j0 : j ≠ 0 := fun z => by rw [z, q.2.1.1] at j2; omega
            have jp : j < p + 1 := by
              by_cases w : j < p + 1
              · exact w
              · by_cases w2 : j = p + 1
                · rw [w2] at j4; omega
                · have := q.2.2.2.1 (p + 1) j (by omega) j1; omega
            exact ns j (by omega) jp (by rw [j2, j3]; exact hx)
          · exact z
  -- the letters come first
  have A2 : ∀ (N : Nat) (l : Int) (tail : Nat) (σ : ml_St) (P U V : Nat → Int), 0 ≤ l → l ≤ nl → nl - l < N → mq_J h told ts cap tb cl pr sz T τ0 nl F c σ → (∀ j, j ≠ 215 → j ≤ 245 → σ j = σ0 j) → mz_q 4 nl ((c : Int) + 1) X e tail 0 l P U V → cm_s nl c σ tail P U V → f_X12_ends_u32 K (f_X12_ends_u91 K) N σ x l := by
    intro N
    induction N with
    | zero => intro l tail σ P U V l0 l1 hN; omega
    | succ N ih =>
      intro l tail σ P U V l0 l1 hN J f q s
      obtain ⟨b1, b2, b3, b4, b5, b6, b7⟩ := mq_J_b J
      have q1 := q.1
      have NX : ∀ (tail : Nat) σ (P U V : Nat → Int), l < nl → mq_J h told ts cap tb cl pr sz T τ0 nl F c σ → (∀ j, j ≠ 215 → j ≤ 245 → σ j = σ0 j) → mz_q 4 nl ((c : Int) + 1) X e tail 0 (l + 1) P U V → cm_s nl c σ tail P U V → f_X12_ends_u85 K (f_X12_ends_u32 K (f_X12_ends_u91 K) N) σ x l := fun tail σ P U V ll J f q s => by
        unfold f_X12_ends_u85
        refine ⟨mt_I (by omega) (by omega), fun y e => ?_⟩
        subst e
        exact ih (l + 1) tail σ P U V (by omega) (by omega) (by omega) J f q s
      unfold f_X12_ends_u32
      rw [b3]
      refine fun _ => ⟨fun q9 => ?_, fun q9 => ⟨l0, by omega, fun _ => ?_⟩⟩
      · unfold f_X12_ends_u91
        have el : l = nl := by omega
        rw [el] at q
        have w := W 3784 0 tail σ P U V (by omega) (by omega) J f (mz_q_next nl6 q (by omega)) s (fun j j1 j2 => by omega)
        exact ⟨3784, w⟩
      have ll : l < nl := by omega
      obtain ⟨w1, w2, w3, w4, w5⟩ := b7 l l0 ll
      obtain ⟨n1, n2, n3⟩ := zn 0 l (by omega) (by omega) l0 ll
      have h229 := he0 l l0 ll
      have h242 := hX0 l
      rw [f 229 (by omega) (by omega), f 237 (by omega) (by omega), h229]
      rw [f 237 (by omega) (by omega)] at w1 w2
      have e00 : P 0 = 0 := q.2.1.1
      have u00 : U 0 = 0 := q.2.1.2.1
      refine ⟨w1, by omega, fun _ => ⟨fun g => NX tail σ P U V ll J f (mz_q_skip q (by omega) (fun hh => ?_)) s, fun g => ?_⟩⟩
      · rw [e00, u00] at hh; omega
      rw [mb_l2i2 (by omega) (by omega), f 242 (by omega) (by omega)]
      rw [f 242 (by omega) (by omega)] at w4 w5
      refine ⟨l0, by omega, fun _ => ⟨mt_I (by omega) (by omega), l0, by omega, fun _ => ⟨w1, by omega, fun _ => ⟨mt_I (by omega) (by omega), ?_⟩⟩⟩⟩
      exact s_comes (c := c) (nl := nl) (hd := 0) c0 (by omega) nl6 zn q s (by omega) l0 ll (by rw [e00, u00]; omega) (by rw [e00, u00]; omega) (if_pos rfl).symm (fun tail' P' U' V' σ' f' fb tt pp fq q' s' => NX tail' σ' P' U' V' ll (JK σ σ' f' fb J) (fun j h1 h2 => by rw [f' j h1 h2, f j h1 h2]) q' s')
  have A1 : ∀ (N : Nat) (j : Int) (σ : ml_St), 0 ≤ j → j ≤ 4 * c → 4 * c - j < N → mq_J h told ts cap tb cl pr sz T τ0 nl F c σ → (∀ j, j ≠ 215 → j ≤ 245 → σ j = σ0 j) → (∀ s, 0 ≤ s → s < j → σ 246 s = 0) → f_X12_ends_u2 K (f_X12_ends_u25 K) N σ x j := by
    intro N
    induction N with
    | zero => intro j σ j0 j1 hN; omega
    | succ N ih =>
      intro j σ j0 j1 hN J f hz
      obtain ⟨b1, b2, b3, b4, b5, b6, b7⟩ := mq_J_b J
      unfold f_X12_ends_u2
      rw [b1]
      refine fun _ => ⟨mt_I (by omega) (by omega), fun q => ?_, fun q => ⟨by omega, by omega, fun σ4 s4 => ⟨mt_I (by omega) (by omega), fun y e => ?_⟩⟩⟩
      · unfold f_X12_ends_u25
        intro σ1 s1
        refine ⟨7, A2 7 0 1 σ1 (fun _ => 0) (fun _ => 0) (fun _ => 0) (by omega) b4 (by omega) (JK σ σ1 (fun j h1 h2 => by rw [s1, ml_up_k h1]) (fun b hb => by rw [s1, ml_up_i hb]) J) (fun j h1 h2 => by rw [s1, ml_up_k h1, f j h1 h2]) (mz_q_0 (by omega) P0 rfl rfl rfl) ⟨by rw [s1, ml_up_same]; rfl, fun i hi => by omega, fun s s0 s1' hs => ?_, fun i j hi hj => by omega⟩⟩
        rw [s1, ml_up_k (by omega)] at hs
        exact absurd (hz s s0 (by omega)) hs
      · subst e
        refine ih (j + 1) σ4 (by omega) (by omega) (by omega) (JK σ σ4 (fun j h1 h2 => by rw [s4, ml_up_k (by omega)]) (fun b hb => by rw [s4, ml_up_k (by omega)]) J) (fun j h1 h2 => by rw [s4, ml_up_k (by omega), f j h1 h2]) (fun s s0 s1 => ?_)
        rw [s4]
        by_cases z : s = j
        · rw [z, ml_up_same]
        · rw [ml_up_i z]; exact hz s s0 (by omega)
  unfold f_X12_ends f_X12_ends_u0
  exact ⟨3782, A1 3782 0 σ0 (by omega) (by omega) (by omega) J0 (fun _ _ _ => rfl) (fun s a b => by omega)⟩
theorem m_shortest {Q : Int → ml_St → Prop} {h told ts cap set n x : Int} {tb cl pr sz : Int → Int} {T : Int → Int → Int} {τ : ml_St} (i : IM h told ts cap tb cl pr sz T τ) (k0 : ¬ (mt_ls told (mt_mk h T sz) set ∧ 0 ≤ n ∧ n ≤ 3 ∧ -1 ≤ x) → ∀ σ, IM h told ts cap tb cl pr sz T σ → (∀ j, j < 215 → σ j = τ j) → Q (-1) σ) (k1 : mt_ls told (mt_mk h T sz) set → 0 ≤ n → n ≤ 3 → -1 ≤ x → ∀ σ L l F (c : Nat) nx, IM h told ts cap tb cl pr sz T σ → (∀ j, j < 215 → σ j = τ j) → ms_M h told (mt_mk h T sz) set L l F c nx → mz_N L nx (fun p a => mt_both h (mq_w (ms_S h F p)) (mt_mk h T sz (l a)) 20) (fun p => mt_cl h (ms_S h F p) cl) n → Q (-1) σ) (k2 : mt_ls told (mt_mk h T sz) set → 0 ≤ n → n ≤ 3 → -1 ≤ x → ∀ σ L l F (c : Nat) nx (m : Nat) V, IM h told ts cap tb cl pr sz T σ → (∀ j, j < 215 → σ j = τ j) → ms_M h told (mt_mk h T sz) set L l F c nx → mz_M L nx (fun p a => mt_both h (mq_w (ms_S h F p)) (mt_mk h T sz (l a)) 20) (fun p => mt_cl h (ms_S h F p) cl) n m V → Q (mz_an l m V x) σ) : f_X12_shortest τ set n x Q := by
  have h2 := i.1.2.2.1
  have h5 := i.1.2.2.2.1
  unfold f_X12_shortest f_X12_shortest_u0
  unfold f_X12_shortest_u25
  refine s_isLetters i (fun no σ i' f _ => ⟨fun _ => k0 (fun y => no y.1) σ i' f, fun z => absurd rfl z⟩) (fun ls σ nl L hl _ => ⟨fun z => absurd z (by omega), fun _ => s_lies (fun n0 n1 _ => ⟨fun z => absurd z (by omega), fun _ => ⟨fun x0 => s_joinsAll L (fun σ0 F c J0 hB hO h7 => ?_), fun z => k0 (fun y => z y.2.2.2) σ L.1 L.2.1⟩⟩) (fun z _ => ⟨fun _ => k0 (fun y => z ⟨y.2.1, y.2.2.1⟩) σ L.1 L.2.1, fun z => absurd rfl z⟩)⟩)
  have kk1 := k1 ls n0 n1 x0
  have kk2 := k2 ls n0 n1 x0
  clear k0 k1 k2
  have nl6 : 0 ≤ nl ∧ nl ≤ 6 := ⟨(mq_J_b J0).2.2.2.1, (mq_J_b J0).2.2.2.2.1⟩
  have hnx : ∀ p a, 0 ≤ p → p < (c : Int) + 1 → 0 ≤ a → a < nl → 1 ≤ ms_n σ0 p a ∧ ms_n σ0 p a < (c : Int) + 1 := fun p a p0 p1 a0 a1 => by
    obtain ⟨y1, y2, -⟩ := hB.2.2.2.2.1 p a p0 a0 a1 (Or.inl p1)
    exact ⟨y1, y2⟩
  generalize he : (fun p a => mt_both h (mq_w (ms_S h F p)) (mt_mk h T sz (σ 237 a)) 20) = e
  have heq : ∀ p a, e p a = mt_both h (mq_w (ms_S h F p)) (mt_mk h T sz (σ 237 a)) 20 := fun p a => by rw [← he]
  have hex : ∀ s a, 0 ≤ s → s < (c : Int) → 0 ≤ a → a < nl → σ0 241 (6 * s + a) = min (e (s + 1) a) 4 ∧ 0 ≤ e (s + 1) a := fun s a s0 s1 a0 a1 => by
    have o : σ0 241 (6 * ((s.toNat : Nat) : Int) + a) = min (mt_both h (mq_w (F s.toNat)) (mt_mk h T sz (σ 237 a)) 20) 4 := hO s.toNat a a0 a1 (by omega)
    have w := J0.2.2.2 s a s0 a0 a1 (by omega)
    rw [show ((s.toNat : Nat) : Int) = s by omega] at o
    rw [heq, ms_S_p (by omega), show (s + 1 - 1).toNat = s.toNat by omega]
    exact ⟨o, by omega⟩
  have hL : ∀ a, 0 ≤ a → a < nl → 0 ≤ e 0 a ∧ σ0 229 (σ0 237 a) = e 0 a := fun a a0 a1 => by
    have md := J0.1.2.2.2.2.2 a a0 a1
    obtain ⟨g1, g2, g3, g4, g5⟩ := IM_w J0.1.1 md
    have b := mq_20 (IM_cv J0.1.1 md.1 md.2.1).1 md.2.2
    rw [heq, ms_S_0, ← h7, ms_e0 h2 h5 g2 g3, g1.2.1]
    exact ⟨b.1, rfl⟩
  have zn : mz_n nl ((c : Int) + 1) (ms_n σ0) e := fun p a p0 p1 a0 a1 => by
    obtain ⟨y1, y2⟩ := hnx p a p0 p1 a0 a1
    refine ⟨y1, y2, ?_⟩
    by_cases z : p = 0
    · rw [z]; exact (hL a a0 a1).1
    · have := (hex (p - 1) a (by omega) (by omega) a0 a1).2
      rw [show p - 1 + 1 = p by omega] at this; exact this
  have kk1 := fun σ1 i1 j1 => kk1 σ1 nl (σ 237) F c (ms_n σ0) i1 j1 ⟨hl, hB⟩
  have kk2 := fun σ1 m V i1 j1 => kk2 σ1 nl (σ 237) F c (ms_n σ0) m V i1 j1 ⟨hl, hB⟩
  rw [he] at kk1 kk2
  refine s_ends (cT := fun p => mt_cl h (ms_S h F p) cl) J0 zn (fun a => if_pos rfl) (fun s a s0 => by unfold ms_n; rw [if_neg (by omega), show s + 1 - 1 = s by omega]) (fun a a0 a1 => (hL a a0 a1).2) (fun s a s0 s1 a0 a1 => (hex s a s0 s1 a0 a1).1) (fun s s0 s1 => ?_) n1 (fun σ1 J no _ => ⟨fun z => absurd rfl z, fun _ => kk1 σ1 J.1.1 J.1.2.1 no⟩) (fun σ1 s m V J e237 mM s0 m9 ct _ => ⟨fun ne => ?_, fun z => by omega⟩)
  · obtain ⟨-, -, -, y4⟩ := J0.2.1.2.1 s.toNat (by omega)
    rw [show ((s.toNat : Nat) : Int) = s by omega] at y4
    refine ⟨?_, mt_cl_1 (by omega)⟩
    show σ0 243 s = mt_cl h (ms_S h F (s + 1)) cl
    rw [ms_S_p (by omega), show (s + 1 - 1).toNat = s.toNat by omega]; exact y4
  obtain ⟨b1, b2, b3, b4, b5, b6, b7⟩ := mq_J_b J
  have KK := kk2 σ1 m V J.1.1 J.1.2.1 mM
  unfold mz_an at KK
  -- steps back
  have B : 0 ≤ x → x < m → ∀ (N : Nat) (p : Nat) (y v : Int), x ≤ p → p < m → p + 1 ≤ N → cm_t nl σ1 (p + 1) y v → (∀ t : Nat, mz_d V (m - 1 - p + t) = mz_d v t) → f_X12_shortest_u96 Q (f_X12_shortest_u117 Q) N σ1 x y p := by
    intro x0 xm N
    induction N with
    | zero => intro p y v _ _ hN; omega
    | succ N ih =>
      intro p y v xp pm hN d hd
      obtain ⟨d1, d2, d3, d4, v', ev, d5⟩ := d
      unfold f_X12_shortest_u96
      refine ⟨fun z => ?_, fun q => ⟨d1, d2, fun _ y3 e3 => ⟨mt_I (by omega) (by omega), fun y4 e4 => ?_⟩⟩⟩
      · unfold f_X12_shortest_u117
        rw [if_neg (by omega), if_pos ⟨x0, xm⟩] at KK
        have : p = x.toNat := by omega
        have h0 := hd 0
        rw [this, show m - 1 - x.toNat + 0 = m - 1 - x.toNat by omega] at h0
        have h1 : mz_d v 0 = v % 7 - 1 := rfl
        rw [h0, h1, show v % 7 - 1 = σ1 249 y by omega, ← h7, ← e237] at KK
        exact ⟨d1, d2, fun _ => ⟨d3, by omega, fun _ => KK⟩⟩
      · obtain ⟨p', rfl⟩ : ∃ p', p = p' + 1 := ⟨p - 1, by omega⟩
        have e4 : y4 = (p' : Int) := by omega
        rw [e4, e3]
        refine ih p' _ v' (by omega) (by omega) (by omega) d5 (fun t => ?_)
        have h0 := hd (t + 1)
        have h1 : mz_d v (t + 1) = mz_d (v / 7) t := rfl
        rw [h1, show v / 7 = v' by omega] at h0
        rw [← h0, show m - 1 - p' + t = m - 1 - (p' + 1) + (t + 1) by omega]
  have A : ∀ (N : Nat) (r : Nat) (y c9 v : Int), r < N → cm_t nl σ1 r y v → c9 + r = m → 0 ≤ c9 → f_X12_shortest_u53 Q (f_X12_shortest_u74 Q) N σ1 x s c9 y := by
    intro N
    induction N with
    | zero => intro r y c9 v hN; omega
    | succ N ih =>
      intro r y c9 v hN d sm c0
      unfold f_X12_shortest_u53
      refine ⟨fun e => ?_, fun e => ?_⟩
      · have r0 : r = 0 := by
          cases r with
          | zero => rfl
          | succ r => have := d.1; omega
        have cm : c9 = m := by omega
        unfold f_X12_shortest_u74
        rw [cm]
        refine ⟨fun x1 => ⟨fun x2 => ⟨mt_I (by omega) (by omega), fun y4 e4 => ⟨m + 1, ?_⟩⟩, fun x2 => ?_⟩, fun x1 => ?_⟩
        · obtain ⟨m', rfl⟩ : ∃ m', m = m' + 1 := ⟨m - 1, by have := mM.1; omega⟩
          have e4 : y4 = (m' : Int) := by omega
          rw [e4]
          exact B (by omega) x2 _ m' _ V (by omega) (by omega) (by omega) ct (fun t => by rw [show m' + 1 - 1 - m' + t = t by omega])
        · rw [if_neg x1, if_neg (by omega)] at KK; exact KK
        · rw [if_pos x1] at KK; exact KK
      · cases r with
        | zero => exact absurd d.1 e
        | succ r =>
          obtain ⟨d1, d2, d3, d4, v', ev, d5⟩ := d
          refine ⟨mt_I (by omega) (by omega), fun y2 e2 => ⟨d1, d2, fun _ y4 e4 => ?_⟩⟩
          rw [e4]
          exact ih r _ y2 v' (by omega) d5 (by omega) (by omega)
  exact ⟨m + 1, A _ m s 0 V (by omega) ct (by omega) (by omega)⟩
