/-! the model: ends, shortest -/
/-- the queue: q different ways, each come from none or from an earlier one -/
def mq_Q (c nl : Int) (q : Nat) (σ : ml_St) : Prop := σ 215 53 = q ∧ (∀ i : Nat, i < q → 0 ≤ σ 247 i ∧ σ 247 i < 4 * c ∧ σ 246 (σ 247 i) ≠ 0 ∧ 0 ≤ σ 249 (σ 247 i) ∧ σ 249 (σ 247 i) < nl ∧ (σ 248 (σ 247 i) = -1 ∨ ∃ j : Nat, j < i ∧ σ 248 (σ 247 i) = σ 247 j)) ∧ ∀ i j : Nat, i < j → j < q → σ 247 i ≠ σ 247 j
theorem mq_Q_le {c nl : Int} {q : Nat} {σ : ml_St} (c0 : 0 ≤ c) (c1 : c ≤ 945) (Q : mq_Q c nl q σ) : q ≤ 3780 := by
  by_cases z : q ≤ 3780
  · exact z
  · obtain ⟨i, j, hij, hj, e⟩ := mt_ph 3780 (fun i => σ 247 i) (fun i hi => by have := Q.2.1 i (by omega); exact ⟨this.1, by show σ 247 i < _; omega⟩)
    exact absurd e (Q.2.2 i j hij (by omega))
/-- how far back a way's start lies -/
def mq_dp (nl : Int) (σ : ml_St) : Nat → Int → Prop
  | 0, x => x = -1
  | n + 1, x => 0 ≤ x ∧ x < 3800 ∧ 0 ≤ σ 249 x ∧ σ 249 x < nl ∧ mq_dp nl σ n (σ 248 x)
theorem mq_Q_dp {c nl : Int} {q : Nat} {σ : ml_St} (c1 : c ≤ 945) (Q : mq_Q c nl q σ) : ∀ (b i : Nat), i ≤ b → i < q → ∃ n, n ≤ i + 1 ∧ mq_dp nl σ n (σ 247 i) := by
  intro b
  induction b with
  | zero =>
    intro i hi iq
    obtain ⟨y1, y2, y3, y4, y5, y6⟩ := Q.2.1 i iq
    rcases y6 with z | ⟨j, j1, j2⟩
    · exact ⟨1, by omega, y1, by omega, y4, y5, z⟩
    · omega
  | succ b ih =>
    intro i hi iq
    obtain ⟨y1, y2, y3, y4, y5, y6⟩ := Q.2.1 i iq
    rcases y6 with z | ⟨j, j1, j2⟩
    · exact ⟨1, by omega, y1, by omega, y4, y5, z⟩
    · obtain ⟨n, n1, n2⟩ := ih j (by omega) (by omega)
      exact ⟨n + 1, by omega, y1, by omega, y4, y5, by rw [j2]; exact n2⟩
theorem s_comes {K : ml_St → Prop} {c nl x fr bl : Int} {q : Nat} {σ : ml_St} (c0 : 0 ≤ c) (c1 : c ≤ 945) (Q : mq_Q c nl q σ) (x0 : 0 ≤ x) (x1 : x < 4 * c) (b0 : 0 ≤ bl) (b1 : bl < nl) (hf : fr = -1 ∨ ∃ j : Nat, j < q ∧ fr = σ 247 j) (k : ∀ (q' : Nat) σ', (∀ j, j ≠ 215 → j ≤ 245 → σ' j = σ j) → (∀ b, b ≠ 53 → σ' 215 b = σ 215 b) → q ≤ q' → (∀ i : Nat, i < q → σ' 247 i = σ 247 i) → mq_Q c nl q' σ' → K σ') : f_X12_comes σ x fr bl K := by
  have q0 := mq_Q_le c0 c1 Q
  unfold f_X12_comes f_X12_comes_u0
  refine ⟨x0, by omega, fun _ => ⟨fun z => ⟨x0, by omega, fun σ3 s3 => ⟨x0, by omega, fun σ4 s4 => ⟨x0, by omega, fun σ5 s5 => ?_⟩⟩⟩, fun _ => k q σ (fun _ _ _ => rfl) (fun _ _ => rfl) (Nat.le_refl q) (fun _ _ => rfl) Q⟩⟩
  have e53 : σ5 215 53 = q := by rw [s5, ml_up_k (by omega), s4, ml_up_k (by omega), s3, ml_up_k (by omega), Q.1]
  rw [e53]
  refine fun _ => ⟨by omega, by omega, fun σ7 s7 => ?_⟩
  have e7 : σ7 215 53 = q := by rw [s7, ml_up_k (by omega), e53]
  rw [e7]
  refine fun _ => ⟨mt_I (by omega) (by omega), fun σ10 s10 => ?_⟩
  have nx : ∀ i : Nat, i < q → σ 247 i ≠ x := fun i hi e => (Q.2.1 i hi).2.2.1 (by rw [e]; exact z)
  have a246 : ∀ p, σ10 246 p = if p = x then 1 else σ 246 p := fun p => by
    rw [s10, ml_up_k (by omega), s7, ml_up_k (by omega), s5, ml_up_k (by omega), s4, ml_up_k (by omega), s3]
    by_cases w : p = x
    · rw [if_pos w, w, ml_up_same]
    · rw [if_neg w, ml_up_i w]
  have a248 : ∀ p, σ10 248 p = if p = x then fr else σ 248 p := fun p => by
    rw [s10, ml_up_k (by omega), s7, ml_up_k (by omega), s5, ml_up_k (by omega), s4]
    by_cases w : p = x
    · rw [if_pos w, w, ml_up_same]
    · rw [if_neg w, ml_up_i w, s3, ml_up_k (by omega)]
  have a249 : ∀ p, σ10 249 p = if p = x then bl else σ 249 p := fun p => by
    rw [s10, ml_up_k (by omega), s7, ml_up_k (by omega), s5]
    by_cases w : p = x
    · rw [if_pos w, w, ml_up_same]
    · rw [if_neg w, ml_up_i w, s4, ml_up_k (by omega), s3, ml_up_k (by omega)]
  have a247 : ∀ p, σ10 247 p = if p = (q : Int) then x else σ 247 p := fun p => by
    rw [s10, ml_up_k (by omega), s7]
    by_cases w : p = (q : Int)
    · rw [if_pos w, w, ml_up_same]
    · rw [if_neg w, ml_up_i w, s5, ml_up_k (by omega), s4, ml_up_k (by omega), s3, ml_up_k (by omega)]
  have b247 : ∀ i : Nat, i < q → σ10 247 i = σ 247 i := fun i hi => by rw [a247, if_neg (by omega)]
  have bq : σ10 247 (q : Int) = x := by rw [a247, if_pos rfl]
  refine k (q + 1) σ10 (fun j h1 h2 => by rw [s10, ml_up_k h1, s7, ml_up_k (by omega), s5, ml_up_k (by omega), s4, ml_up_k (by omega), s3, ml_up_k (by omega)]) (fun b hb => by rw [s10, ml_up_i hb, s7, ml_up_k (by omega), s5, ml_up_k (by omega), s4, ml_up_k (by omega), s3, ml_up_k (by omega)]) (by omega) b247 ⟨by rw [s10, ml_up_same]; omega, fun i hi => ?_, fun i j ij hj => ?_⟩
  · by_cases w : i = q
    · subst w
      rw [bq, a246, a248, a249, if_pos rfl, if_pos rfl, if_pos rfl]
      refine ⟨x0, x1, by omega, b0, b1, ?_⟩
      rcases hf with e | ⟨j, j1, j2⟩
      · exact Or.inl e
      · exact Or.inr ⟨j, j1, by rw [b247 j j1, j2]⟩
    · have iq : i < q := by omega
      obtain ⟨y1, y2, y3, y4, y5, y6⟩ := Q.2.1 i iq
      rw [b247 i iq, a246, a248, a249, if_neg (nx i iq), if_neg (nx i iq), if_neg (nx i iq)]
      refine ⟨y1, y2, y3, y4, y5, ?_⟩
      rcases y6 with e | ⟨j, j1, j2⟩
      · exact Or.inl e
      · exact Or.inr ⟨j, j1, by rw [b247 j (by omega), j2]⟩
  · by_cases w : j = q
    · subst w; rw [bq, b247 i ij]; exact nx i ij
    · rw [b247 i (by omega), b247 j (by omega)]; exact Q.2.2 i j ij (by omega)
theorem s_ends {K : Int → ml_St → Prop} {h told ts cap nl x : Int} {tb cl pr sz : Int → Int} {T : Int → Int → Int} {τ0 σ0 : ml_St} {F : Nat → Int → Int} {c : Nat} (J0 : mq_J h told ts cap tb cl pr sz T τ0 nl F c σ0) (k0 : ∀ σ, mq_J h told ts cap tb cl pr sz T τ0 nl F c σ → K (-1) σ) (k1 : ∀ σ (q i : Nat), mq_J h told ts cap tb cl pr sz T τ0 nl F c σ → mq_Q c nl q σ → i < q → K (σ 247 i) σ) : f_X12_ends σ0 x K := by
  have JK : ∀ (σ σ' : ml_St), (∀ j, j ≠ 215 → j ≤ 245 → σ' j = σ j) → (∀ b, b ≠ 53 → σ' 215 b = σ 215 b) → mq_J h told ts cap tb cl pr sz T τ0 nl F c σ → mq_J h told ts cap tb cl pr sz T τ0 nl F c σ' := fun σ σ' f b J => mq_J_k (fun j h1 h2 => f j h1 (by omega)) (fun b' hb => b b' (by omega)) J
  have b2 := (mq_J_b J0).2.1
  -- the queue is gone through
  have W : ∀ (N : Nat) (p q : Nat) (σ : ml_St), p ≤ q → 3781 - (p : Int) < N → mq_J h told ts cap tb cl pr sz T τ0 nl F c σ → mq_Q c nl q σ → f_X12_ends_u93 K (f_X12_ends_u124 K) (f_X12_ends_u202 K) N σ x p := by
    intro N
    induction N with
    | zero => intro p q σ pq hN J Q; have := mq_Q_le (by omega) (by omega) Q; omega
    | succ N ih =>
      intro p q σ pq hN J Q
      have q0 := mq_Q_le (by omega) (by omega) Q
      obtain ⟨b1, b2, b3, b4, b5, b6, b7⟩ := mq_J_b J
      unfold f_X12_ends_u93
      rw [Q.1]
      refine fun _ => ⟨fun _ => ?_, fun q1 => ⟨by omega, by omega, fun _ y4 e4 => ?_⟩⟩
      · unfold f_X12_ends_u202; exact k0 σ J
      obtain ⟨y1, y2, -, -, -, -⟩ := Q.2.1 p (by omega)
      rw [← e4] at y1 y2
      have e1 : Int.tmod y4 4 = y4 % 4 := Int.tmod_eq_emod_of_nonneg y1
      have e2 : Int.tdiv y4 4 = y4 / 4 := Int.tdiv_eq_ediv_of_nonneg y1
      rw [e1, e2]
      have c6 := b6 (y4 / 4) (by omega) (by omega)
      refine ⟨by omega, mt_I (by omega) (by omega), by omega, mt_I (by omega) (by omega), by omega, by omega, fun _ => ⟨mt_I (by omega) (by omega), fun _ => ⟨7, ?_⟩, fun _ => ?_⟩⟩
      · have I : ∀ (M : Nat) (l : Int) (q : Nat) (σ : ml_St), p < q → 0 ≤ l → l ≤ nl → nl - l < M → mq_J h told ts cap tb cl pr sz T τ0 nl F c σ → mq_Q c nl q σ → σ 247 p = y4 → f_X12_ends_u129 K (f_X12_ends_u196 K (f_X12_ends_u93 K (f_X12_ends_u124 K) (f_X12_ends_u202 K) N)) M σ x p y4 l := by
          intro M
          induction M with
          | zero => intro l q σ pq l0 l1 hM; omega
          | succ M ihl =>
            intro l q σ pq l0 l1 hM J Q ey
            obtain ⟨b1, b2, b3, b4, b5, b6, b7⟩ := mq_J_b J
            unfold f_X12_ends_u129
            rw [b3, e1, e2]
            have NX : ∀ (q : Nat) σ, l < nl → p < q → mq_J h told ts cap tb cl pr sz T τ0 nl F c σ → mq_Q c nl q σ → σ 247 p = y4 → f_X12_ends_u190 K (f_X12_ends_u129 K (f_X12_ends_u196 K (f_X12_ends_u93 K (f_X12_ends_u124 K) (f_X12_ends_u202 K) N)) M) σ x p y4 l := fun q σ ll pq J Q ey => by
              unfold f_X12_ends_u190
              refine ⟨mt_I (by omega) (by omega), fun y e => ?_⟩
              subst e
              exact ihl (l + 1) q σ pq (by omega) (by omega) (by omega) J Q ey
            refine fun _ => ⟨fun _ => ?_, fun q3 => ⟨by omega, mt_I (by omega) (by omega), by omega, mt_I (by omega) (by omega), mt_I (by omega) (by omega), mt_I (by omega) (by omega), by omega, by omega, ?_⟩⟩
            · unfold f_X12_ends_u196
              have := mq_Q_le (by omega) (by omega) Q
              refine ⟨mt_I (by omega) (by omega), fun y e => ?_⟩
              have e : y = ((p + 1 : Nat) : Int) := by omega
              subst e
              exact ih (p + 1) q σ (by omega) (by omega) J Q
            obtain ⟨w1, w2, w3, w4⟩ := J.2.2.2 (y4 / 4) l (by omega) l0 (by omega) (by omega)
            refine fun _ => ⟨mt_I (by omega) (by omega), fun y9 e9 => ⟨fun _ => NX q σ (by omega) pq J Q ey, fun q4 => ⟨by omega, mt_I (by omega) (by omega), mt_I (by omega) (by omega), mt_I (by omega) (by omega), by omega, by omega, fun _ => ⟨mt_I (by omega) (by omega), mt_I (by omega) (by omega), ?_⟩⟩⟩⟩
            refine s_comes (c := c) (nl := nl) (by omega) (by omega) Q (by omega) (by omega) l0 (by omega) (Or.inr ⟨p, pq, ey.symm⟩) (fun q' σ' f fb qq fq Q' => NX q' σ' (by omega) (by omega) (JK σ σ' f fb J) Q' (by rw [fq p pq]; exact ey))
        exact I 7 0 q σ (by omega) (by omega) b4 (by omega) J Q e4.symm
      · unfold f_X12_ends_u124
        rw [e4]
        exact k1 σ q p J Q (by omega)
  -- the letters come first
  have A2 : ∀ (N : Nat) (l : Int) (q : Nat) (σ : ml_St), 0 ≤ l → l ≤ nl → nl - l < N → mq_J h told ts cap tb cl pr sz T τ0 nl F c σ → mq_Q c nl q σ → f_X12_ends_u32 K (f_X12_ends_u91 K) N σ x l := by
    intro N
    induction N with
    | zero => intro l q σ l0 l1 hN; omega
    | succ N ih =>
      intro l q σ l0 l1 hN J Q
      obtain ⟨b1, b2, b3, b4, b5, b6, b7⟩ := mq_J_b J
      have NX : ∀ (q : Nat) σ, l < nl → mq_J h told ts cap tb cl pr sz T τ0 nl F c σ → mq_Q c nl q σ → f_X12_ends_u85 K (f_X12_ends_u32 K (f_X12_ends_u91 K) N) σ x l := fun q σ ll J Q => by
        unfold f_X12_ends_u85
        refine ⟨mt_I (by omega) (by omega), fun y e => ?_⟩
        subst e
        exact ih (l + 1) q σ (by omega) (by omega) (by omega) J Q
      unfold f_X12_ends_u32
      rw [b3]
      refine fun _ => ⟨fun _ => ?_, fun q1 => ⟨l0, by omega, fun _ => ?_⟩⟩
      · unfold f_X12_ends_u91
        exact ⟨3782, W 3782 0 q σ (by omega) (by omega) J Q⟩
      obtain ⟨w1, w2, w3, w4, w5⟩ := b7 l l0 (by omega)
      refine ⟨w1, by omega, fun _ => ⟨fun _ => NX q σ (by omega) J Q, fun q2 => ?_⟩⟩
      rw [mb_l2i2 (by omega) (by omega)]
      refine ⟨l0, by omega, fun _ => ⟨mt_I (by omega) (by omega), l0, by omega, fun _ => ⟨w1, by omega, fun _ => ⟨mt_I (by omega) (by omega), ?_⟩⟩⟩⟩
      exact s_comes (c := c) (nl := nl) (by omega) (by omega) Q (by omega) (by omega) l0 (by omega) (Or.inl rfl) (fun q' σ' f fb qq fq Q' => NX q' σ' (by omega) (JK σ σ' f fb J) Q')
  have A1 : ∀ (N : Nat) (j : Int) (σ : ml_St), 0 ≤ j → j ≤ 4 * c → 4 * c - j < N → mq_J h told ts cap tb cl pr sz T τ0 nl F c σ → f_X12_ends_u2 K (f_X12_ends_u25 K) N σ x j := by
    intro N
    induction N with
    | zero => intro j σ j0 j1 hN; omega
    | succ N ih =>
      intro j σ j0 j1 hN J
      obtain ⟨b1, b2, b3, b4, b5, b6, b7⟩ := mq_J_b J
      unfold f_X12_ends_u2
      rw [b1]
      refine fun _ => ⟨mt_I (by omega) (by omega), fun q => ?_, fun q => ⟨by omega, by omega, fun σ4 s4 => ⟨mt_I (by omega) (by omega), fun y e => ?_⟩⟩⟩
      · unfold f_X12_ends_u25
        intro σ1 s1
        exact ⟨7, A2 7 0 0 σ1 (by omega) b4 (by omega) (JK σ σ1 (fun j h1 h2 => by rw [s1, ml_up_k h1]) (fun b hb => by rw [s1, ml_up_i hb]) J) ⟨by rw [s1, ml_up_same]; rfl, fun i hi => absurd hi (by omega), fun i j _ hj => absurd hj (by omega)⟩⟩
      · subst e
        exact ih (j + 1) σ4 (by omega) (by omega) (by omega) (JK σ σ4 (fun j h1 h2 => by rw [s4, ml_up_k (by omega)]) (fun b hb => by rw [s4, ml_up_k (by omega)]) J)
  unfold f_X12_ends f_X12_ends_u0
  exact ⟨3782, A1 3782 0 σ0 (by omega) (by omega) (by omega) J0⟩
theorem m_shortest {Q : Int → ml_St → Prop} {h told ts cap set n x : Int} {tb cl pr sz : Int → Int} {T : Int → Int → Int} {τ : ml_St} (i : IM h told ts cap tb cl pr sz T τ) (k : ∀ r σ, IM h told ts cap tb cl pr sz T σ → (∀ j, j < 215 → σ j = τ j) → Q r σ) : f_X12_shortest τ set n x Q := by
  unfold f_X12_shortest f_X12_shortest_u0
  unfold f_X12_shortest_u25
  refine s_isLetters i (fun σ i' f _ => ⟨fun _ => k _ σ i' f, fun z => absurd rfl z⟩) (fun σ nl L _ => ⟨fun z => absurd z (by omega), fun _ => s_lies (fun n0 n1 _ => ⟨fun z => absurd z (by omega), fun _ => ⟨fun x0 => s_joinsAll L (fun σ0 F c J0 => s_ends J0 (fun σ J _ => ⟨fun z => absurd rfl z, fun _ => k _ σ J.1.1 J.1.2.1⟩) (fun σ q i J Q' iq _ => ⟨fun ne => ?_, fun _ => k _ σ J.1.1 J.1.2.1⟩)), fun _ => k _ σ L.1 L.2.1⟩⟩) (fun _ _ => ⟨fun _ => k _ σ L.1 L.2.1, fun z => absurd rfl z⟩)⟩)
  obtain ⟨b1, b2, b3, b4, b5, b6, b7⟩ := mq_J_b J
  have q0 := mq_Q_le (by omega) (by omega) Q'
  obtain ⟨n, n1, n2⟩ := mq_Q_dp (by omega) Q' i i (Nat.le_refl i) iq
  have KK := fun r => k r σ J.1.1 J.1.2.1
  -- steps back
  have B : ∀ (N : Nat) (p : Nat) (y : Int), 0 ≤ x → x ≤ p → (p : Int) ≤ 3800 → p + 1 ≤ N → mq_dp nl σ (p + 1) y → f_X12_shortest_u96 Q (f_X12_shortest_u117 Q) N σ x y p := by
    intro N
    induction N with
    | zero => intro p y _ _ _ hN; omega
    | succ N ih =>
      intro p y x0 xp p1 hN d
      obtain ⟨d1, d2, d3, d4, d5⟩ := d
      unfold f_X12_shortest_u96
      refine ⟨fun _ => ?_, fun q => ⟨d1, by omega, fun _ y3 e3 => ⟨mt_I (by omega) (by omega), fun y4 e4 => ?_⟩⟩⟩
      · unfold f_X12_shortest_u117
        exact ⟨d1, by omega, fun _ => ⟨d3, by omega, fun _ => KK _⟩⟩
      · obtain ⟨p', rfl⟩ : ∃ p', p = p' + 1 := ⟨p - 1, by omega⟩
        have e4 : y4 = (p' : Int) := by omega
        subst e4; subst e3
        exact ih p' _ x0 (by omega) (by omega) (by omega) d5
  have A : ∀ (N : Nat) (m : Nat) (y s : Int), m < N → mq_dp nl σ m y → 0 ≤ s → s + m = n → f_X12_shortest_u53 Q (f_X12_shortest_u74 Q) N σ x (σ 247 i) s y := by
    intro N
    induction N with
    | zero => intro m y s hN; omega
    | succ N ih =>
      intro m y s hN d s0 sm
      unfold f_X12_shortest_u53
      refine ⟨fun e => ?_, fun e => ?_⟩
      · have m0 : m = 0 := by
          cases m with
          | zero => rfl
          | succ m => have := d.1; omega
        unfold f_X12_shortest_u74
        refine ⟨fun x1 => ⟨fun x2 => ⟨mt_I (by omega) (by omega), fun y4 e4 => ⟨n + 1, ?_⟩⟩, fun _ => KK _⟩, fun _ => KK _⟩
        obtain ⟨n', rfl⟩ : ∃ n', n = n' + 1 := ⟨n - 1, by omega⟩
        have e4 : y4 = (n' : Int) := by omega
        subst e4
        exact B _ n' _ (by omega) (by omega) (by omega) (by omega) n2
      · cases m with
        | zero => exact absurd d e
        | succ m =>
          obtain ⟨d1, d2, d3, d4, d5⟩ := d
          refine ⟨mt_I (by omega) (by omega), fun y2 e2 => ⟨d1, by omega, fun _ y4 e4 => ?_⟩⟩
          subst e4
          exact ih m _ y2 (by omega) d5 (by omega) (by omega)
  exact ⟨n + 1, A _ n _ 0 (by omega) n2 (by omega) (by omega)⟩
