/-! the model: many -/
theorem mq_J_k {h told ts cap nl : Int} {tb cl pr sz : Int → Int} {T : Int → Int → Int} {τ0 σ σ' : ml_St} {F : Nat → Int → Int} {c : Nat} (f : ∀ j, j ≠ 215 → j ≤ 243 → σ' j = σ j) (b : ∀ b, b ≤ 39 → σ' 215 b = σ 215 b) (i : mq_J h told ts cap tb cl pr sz T τ0 nl F c σ) : mq_J h told ts cap tb cl pr sz T τ0 nl F c σ' := by
  obtain ⟨i1, i2, i3, i4⟩ := i
  refine ⟨mq_L_k (mt_kq_o (fun j hj => f j (by omega) (by omega)) (fun c b1 b2 => b c (by omega))) (b 38 (by omega)) (f 237 (by omega) (by omega)) i1, mq_s_k (b 39 (by omega)) (f 238 (by omega) (by omega)) (f 239 (by omega) (by omega)) (f 243 (by omega) (by omega)) i2, ?_, ?_⟩
  · unfold mq_1; rw [f 242 (by omega) (by omega)]; exact i3
  · unfold mq_n; rw [f 240 (by omega) (by omega), f 241 (by omega) (by omega)]; exact i4
/-- bounds that searches need -/
theorem mq_J_b {h told ts cap nl : Int} {tb cl pr sz : Int → Int} {T : Int → Int → Int} {τ0 σ : ml_St} {F : Nat → Int → Int} {c : Nat} (i : mq_J h told ts cap tb cl pr sz T τ0 nl F c σ) : σ 215 39 = c ∧ c ≤ 945 ∧ σ 215 38 = nl ∧ 0 ≤ nl ∧ nl ≤ 6 ∧ (∀ s : Int, 0 ≤ s → s < c → 0 ≤ σ 243 s ∧ σ 243 s ≤ 10) ∧ (∀ l, 0 ≤ l → l < nl → 0 ≤ σ 237 l ∧ σ 237 l < 16 ∧ 0 ≤ σ 229 (σ 237 l) ∧ 0 ≤ σ 242 l ∧ σ 242 l < c) := by
  have h2 := i.1.1.1.2.2.1
  have h5 := i.1.1.1.2.2.2.1
  have hc := i.1.1.2.2.1.2.2.2
  refine ⟨i.2.1.1, mq_s_le h2 h5 i.2.1, i.1.2.2.1, i.1.2.2.2.1, i.1.2.2.2.2.1, fun s s0 s1 => ?_, fun l l0 l1 => ?_⟩
  · obtain ⟨y1, y2, y3, y4⟩ := i.2.1.2.1 s.toNat (by omega)
    rw [show ((s.toNat : Nat) : Int) = s by omega] at y4
    rw [y4]; exact mt_cl_r (by omega) h5 y1 hc
  · have md := i.1.2.2.2.2.2 l l0 l1
    obtain ⟨g1, g2, g3, g4, g5⟩ := IM_w i.1.1 md
    have b := mq_20 (IM_cv i.1.1 md.1 md.2.1).1 md.2.2
    have f := i.2.2.1 l l0 l1
    rw [g1.2.1]
    exact ⟨g4, g5, b.1, f.1, f.2⟩
theorem m_many {Q : Int → ml_St → Prop} {h told ts cap set n x : Int} {tb cl pr sz : Int → Int} {T : Int → Int → Int} {τ : ml_St} (i : IM h told ts cap tb cl pr sz T τ) (k : ∀ r σ, IM h told ts cap tb cl pr sz T σ → (∀ j, j < 215 → σ j = τ j) → Q r σ) : f_X12_many τ set n x Q := by
  unfold f_X12_many f_X12_many_u0
  unfold f_X12_many_u32
  refine s_isLetters i (fun σ i' f _ => ⟨fun _ => k _ σ i' f, fun z => absurd rfl z⟩) (fun σ nl L _ => ⟨fun z => absurd z (by omega), fun _ => s_lies (fun n0 n1 _ => ⟨fun z => absurd z (by omega), fun _ => s_lies (fun x0 x1 _ => ⟨fun _ => s_joinsAll L (fun σ0 F c J0 => ⟨3800, ?_⟩), fun z => absurd z (by omega)⟩) (fun _ _ => ⟨fun z => absurd rfl z, fun _ => k _ σ L.1 L.2.1⟩)⟩) (fun _ _ => ⟨fun _ => k _ σ L.1 L.2.1, fun z => absurd rfl z⟩)⟩)
  have U : ∀ (σ σ' : ml_St) (p q v : Int), p = 244 ∨ p = 245 → σ' = ml_up σ p q v → mq_J h told ts cap tb cl pr sz T τ nl F c σ → mq_J h told ts cap tb cl pr sz T τ nl F c σ' := fun σ σ' p q v hp e J => mq_J_k (fun j h1 h2 => by rw [e, ml_up_k (by omega)]) (fun b _ => by rw [e, ml_up_k (by omega)]) J
  -- the sum
  have S : ∀ σ, mq_J h told ts cap tb cl pr sz T τ nl F c σ → f_X12_many_u338 Q σ x := by
    intro σ J
    obtain ⟨b1, b2, b3, b4, b5, b6, b7⟩ := mq_J_b J
    have L : ∀ (N : Nat) (y j : Int), 0 ≤ j → j ≤ 4 * c → 4 * c - j < N → f_X12_many_u344 Q (f_X12_many_u395 Q) N σ x y j := by
      intro N
      induction N with
      | zero => intro y j j0 j1 hN; omega
      | succ N ih =>
        intro y j j0 j1 hN
        unfold f_X12_many_u344
        rw [b1]
        have e1 : Int.tmod j 4 = j % 4 := Int.tmod_eq_emod_of_nonneg j0
        have e2 : Int.tdiv j 4 = j / 4 := Int.tdiv_eq_ediv_of_nonneg j0
        rw [e1, e2]
        have N1 : ∀ s0 s1, j < 4 * c → f_X12_many_u386 Q (f_X12_many_u344 Q (f_X12_many_u395 Q) N) σ x j s0 s1 := fun s0 s1 hj => by
          unfold f_X12_many_u386
          intro y2 _
          refine ⟨mt_I (by omega) (by omega), fun y3 e3 => ?_⟩
          subst e3
          exact ih y2 (j + 1) (by omega) (by omega) (by omega)
        refine fun _ => ⟨mt_I (by omega) (by omega), fun _ => ?_, fun q => ⟨by omega, mt_I (by omega) (by omega), by omega, mt_I (by omega) (by omega), by omega, by omega, fun _ => ?_⟩⟩
        · unfold f_X12_many_u395
          exact ⟨by omega, k _ σ J.1.1 J.1.2.1⟩
        · have := b6 (j / 4) (by omega) (by omega)
          exact ⟨mt_I (by omega) (by omega), fun _ => N1 _ _ (by omega), fun _ => ⟨by omega, by omega, fun _ => N1 _ _ (by omega)⟩⟩
    unfold f_X12_many_u338
    exact ⟨3801, L 3801 0 0 (by omega) (by omega) (by omega)⟩
  -- the rounds
  have R : ∀ (N : Nat) (t : Int) (σ : ml_St), 1 ≤ t → t ≤ 1001 → 1001 - t < N → mq_J h told ts cap tb cl pr sz T τ nl F c σ → f_X12_many_u138 Q (f_X12_many_u338 Q) N σ n x t := by
    intro N
    induction N with
    | zero => intro t σ t0 t1 hN; omega
    | succ N ih =>
      intro t σ t0 t1 hN J
      -- copied back
      have C2 : ∀ (M : Nat) (j : Int) (σ : ml_St), 0 ≤ j → j ≤ 4 * c → 4 * c - j < M → t < 1001 → mq_J h told ts cap tb cl pr sz T τ nl F c σ → f_X12_many_u301 Q (f_X12_many_u332 Q (f_X12_many_u138 Q (f_X12_many_u338 Q) N)) M σ n x t j := by
        intro M
        induction M with
        | zero => intro j σ j0 j1 hM; omega
        | succ M ihj =>
          intro j σ j0 j1 hM tt J
          obtain ⟨b1, b2, b3, b4, b5, b6, b7⟩ := mq_J_b J
          unfold f_X12_many_u301
          rw [b1]
          refine fun _ => ⟨mt_I (by omega) (by omega), fun q => ?_, fun q => ⟨by omega, by omega, fun _ => ⟨by omega, by omega, fun σ5 s5 => ⟨mt_I (by omega) (by omega), fun y e => ?_⟩⟩⟩⟩
          · unfold f_X12_many_u332
            refine ⟨mt_I (by omega) (by omega), fun y e => ?_⟩
            subst e
            exact ih (t + 1) σ (by omega) (by omega) (by omega) J
          · subst e
            exact ihj (j + 1) σ5 (by omega) (by omega) (by omega) tt (U σ σ5 _ _ _ (Or.inl rfl) s5 J)
      -- spread
      have C1 : ∀ (M : Nat) (j : Int) (σ : ml_St), 0 ≤ j → j ≤ 4 * c → 4 * c - j < M → t < 1001 → mq_J h told ts cap tb cl pr sz T τ nl F c σ → f_X12_many_u175 Q (f_X12_many_u298 Q (f_X12_many_u138 Q (f_X12_many_u338 Q) N)) M σ n x t j := by
        intro M
        induction M with
        | zero => intro j σ j0 j1 hM; omega
        | succ M ihj =>
          intro j σ j0 j1 hM tt J
          obtain ⟨b1, b2, b3, b4, b5, b6, b7⟩ := mq_J_b J
          unfold f_X12_many_u175
          rw [b1]
          refine fun _ => ⟨mt_I (by omega) (by omega), fun q => ?_, fun q => ⟨7, ?_⟩⟩
          · unfold f_X12_many_u298
            exact ⟨3801, C2 3801 0 σ (by omega) (by omega) (by omega) tt J⟩
          have e1 : Int.tmod j 4 = j % 4 := Int.tmod_eq_emod_of_nonneg j0
          have e2 : Int.tdiv j 4 = j / 4 := Int.tdiv_eq_ediv_of_nonneg j0
          have I : ∀ (M' : Nat) (l : Int) (σ : ml_St), 0 ≤ l → l ≤ nl → nl - l < M' → mq_J h told ts cap tb cl pr sz T τ nl F c σ → f_X12_many_u189 Q (f_X12_many_u292 Q (f_X12_many_u175 Q (f_X12_many_u298 Q (f_X12_many_u138 Q (f_X12_many_u338 Q) N)) M)) M' σ n x t j l := by
            intro M'
            induction M' with
            | zero => intro l σ l0 l1 hM'; omega
            | succ M' ihl =>
              intro l σ l0 l1 hM' J
              obtain ⟨b1, b2, b3, b4, b5, b6, b7⟩ := mq_J_b J
              have OUT : f_X12_many_u292 Q (f_X12_many_u175 Q (f_X12_many_u298 Q (f_X12_many_u138 Q (f_X12_many_u338 Q) N)) M) σ n x t j := by
                unfold f_X12_many_u292
                refine ⟨mt_I (by omega) (by omega), fun y e => ?_⟩
                subst e
                exact ihj (j + 1) σ (by omega) (by omega) (by omega) tt J
              have NX : ∀ σ, l < nl → mq_J h told ts cap tb cl pr sz T τ nl F c σ → f_X12_many_u286 Q (f_X12_many_u189 Q (f_X12_many_u292 Q (f_X12_many_u175 Q (f_X12_many_u298 Q (f_X12_many_u138 Q (f_X12_many_u338 Q) N)) M)) M') σ n x t j l := fun σ ll J => by
                unfold f_X12_many_u286
                refine ⟨mt_I (by omega) (by omega), fun y e => ?_⟩
                subst e
                exact ihl (l + 1) σ (by omega) (by omega) (by omega) J
              unfold f_X12_many_u189
              rw [b3, e1, e2]
              refine fun _ => ⟨fun _ => OUT, fun q3 => ⟨by omega, by omega, fun _ => ⟨fun _ => OUT, fun _ => ⟨by omega, mt_I (by omega) (by omega), by omega, mt_I (by omega) (by omega), mt_I (by omega) (by omega), mt_I (by omega) (by omega), by omega, by omega, ?_⟩⟩⟩⟩
              obtain ⟨w1, w2, w3, w4⟩ := J.2.2.2 (j / 4) l (by omega) l0 (by omega) (by omega)
              refine fun _ => ⟨mt_I (by omega) (by omega), fun y11 e11 => ⟨by omega, mt_I (by omega) (by omega), mt_I (by omega) (by omega), mt_I (by omega) (by omega), by omega, by omega, fun _ => ⟨mt_I (by omega) (by omega), mt_I (by omega) (by omega), fun y18 e18 => ⟨fun _ => NX σ (by omega) J, fun q4 => ⟨by omega, by omega, fun _ => ⟨by omega, by omega, fun _ => ⟨by omega, by omega, by omega, fun σ24 s24 => NX σ24 (by omega) (U σ σ24 _ _ _ (Or.inr rfl) s24 J)⟩⟩⟩⟩⟩⟩⟩
          exact I 7 0 σ (by omega) b4 (by omega) J
      -- the new row is emptied
      have C0 : ∀ (M : Nat) (j : Int) (σ : ml_St), 0 ≤ j → j ≤ 4 * c → 4 * c - j < M → t < 1001 → mq_J h told ts cap tb cl pr sz T τ nl F c σ → f_X12_many_u147 Q (f_X12_many_u172 Q (f_X12_many_u138 Q (f_X12_many_u338 Q) N)) M σ n x t j := by
        intro M
        induction M with
        | zero => intro j σ j0 j1 hM; omega
        | succ M ihj =>
          intro j σ j0 j1 hM tt J
          obtain ⟨b1, b2, b3, b4, b5, b6, b7⟩ := mq_J_b J
          unfold f_X12_many_u147
          rw [b1]
          refine fun _ => ⟨mt_I (by omega) (by omega), fun q => ?_, fun q => ⟨by omega, by omega, fun σ4 s4 => ⟨mt_I (by omega) (by omega), fun y e => ?_⟩⟩⟩
          · unfold f_X12_many_u172
            exact ⟨3801, C1 3801 0 σ (by omega) (by omega) (by omega) tt J⟩
          · subst e
            exact ihj (j + 1) σ4 (by omega) (by omega) (by omega) tt (U σ σ4 _ _ _ (Or.inr rfl) s4 J)
      unfold f_X12_many_u138
      have b2 := (mq_J_b J).2.1
      exact ⟨fun _ => S σ J, fun q => ⟨3801, C0 3801 0 σ (by omega) (by omega) (by omega) (by omega) J⟩⟩
  -- the first row
  have A2 : ∀ (N : Nat) (l : Int) (σ : ml_St), 0 ≤ l → l ≤ nl → nl - l < N → mq_J h told ts cap tb cl pr sz T τ nl F c σ → f_X12_many_u69 Q (f_X12_many_u135 Q) N σ n x l := by
    intro N
    induction N with
    | zero => intro l σ l0 l1 hN; omega
    | succ N ih =>
      intro l σ l0 l1 hN J
      obtain ⟨b1, b2, b3, b4, b5, b6, b7⟩ := mq_J_b J
      have NX : ∀ σ, l < nl → mq_J h told ts cap tb cl pr sz T τ nl F c σ → f_X12_many_u129 Q (f_X12_many_u69 Q (f_X12_many_u135 Q) N) σ n x l := fun σ ll J => by
        unfold f_X12_many_u129
        refine ⟨mt_I (by omega) (by omega), fun y e => ?_⟩
        subst e
        exact ih (l + 1) σ (by omega) (by omega) (by omega) J
      unfold f_X12_many_u69
      rw [b3]
      refine fun _ => ⟨fun q => ?_, fun q => ⟨l0, by omega, fun _ => ?_⟩⟩
      · unfold f_X12_many_u135
        exact ⟨1001, R 1001 1 σ (by omega) (by omega) (by omega) J⟩
      obtain ⟨w1, w2, w3, w4, w5⟩ := b7 l l0 (by omega)
      refine ⟨w1, by omega, fun _ => ⟨fun _ => NX σ (by omega) J, fun q2 => ?_⟩⟩
      rw [mb_l2i2 (by omega) (by omega)]
      exact ⟨l0, by omega, fun _ => ⟨mt_I (by omega) (by omega), l0, by omega, fun _ => ⟨w1, by omega, fun _ => ⟨mt_I (by omega) (by omega), by omega, by omega, fun _ => ⟨by omega, by omega, fun σ13 s13 => NX σ13 (by omega) (U σ σ13 _ _ _ (Or.inl rfl) s13 J)⟩⟩⟩⟩⟩
  have A1 : ∀ (N : Nat) (j : Int) (σ : ml_St), 0 ≤ j → j ≤ 4 * c → 4 * c - j < N → mq_J h told ts cap tb cl pr sz T τ nl F c σ → f_X12_many_u41 Q (f_X12_many_u66 Q) N σ n x j := by
    intro N
    induction N with
    | zero => intro j σ j0 j1 hN; omega
    | succ N ih =>
      intro j σ j0 j1 hN J
      obtain ⟨b1, b2, b3, b4, b5, b6, b7⟩ := mq_J_b J
      unfold f_X12_many_u41
      rw [b1]
      refine fun _ => ⟨mt_I (by omega) (by omega), fun q => ?_, fun q => ⟨by omega, by omega, fun σ4 s4 => ⟨mt_I (by omega) (by omega), fun y e => ?_⟩⟩⟩
      · unfold f_X12_many_u66
        exact ⟨7, A2 7 0 σ (by omega) b4 (by omega) J⟩
      · subst e
        exact ih (j + 1) σ4 (by omega) (by omega) (by omega) (U σ σ4 _ _ _ (Or.inl rfl) s4 J)
  have b2 := (mq_J_b J0).2.1
  have := A1 3800 0 σ0 (by omega) (by omega) (by omega) J0
  exact this
