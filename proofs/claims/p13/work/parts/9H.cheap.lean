/-! the model: best, targetOf, cheapest -/
/-- what best finds among the letters, each of which leads to D l -/
def mq_bs (nl : Int) (D co p st : Int → Int) (r : Int) : Prop := (r = -1 ∧ ∀ l, 0 ≤ l → l < nl → p (D l) = -1) ∨ (0 ≤ r ∧ r < nl ∧ p (D r) ≠ -1 ∧ ∀ l, 0 ≤ l → l < nl → p (D l) ≠ -1 → p (D r) + co r < p (D l) + co l ∨ (p (D r) + co r = p (D l) + co l ∧ st (D r) ≤ st (D l)))
theorem s_best {K : Int → ml_St → Prop} {h told ts cap nl t x : Int} {D : Int → Int} {tb cl pr sz : Int → Int} {T : Int → Int → Int} {τ0 σ : ml_St} {F : Nat → Int → Int} {c : Nat} (J : mq_J h told ts cap tb cl pr sz T τ0 nl F c σ) (P : mq_P c nl t (mq_x σ) (mq_c σ) (σ 250) (σ 251)) (hD : ∀ l, 0 ≤ l → l < nl → 0 ≤ D l ∧ D l < c ∧ (x ≠ -1 → σ 240 (6 * x + l) = D l) ∧ (x = -1 → σ 242 l = D l)) (hx : x ≠ -1 → 0 ≤ x ∧ x < c) (k : ∀ r, mq_bs nl D (mq_c σ) (σ 250) (σ 251) r → K r σ) : f_X12_best σ x K := by
  obtain ⟨b1, b2, b3, b4, b5, b6, b7⟩ := mq_J_b J
  have L : ∀ (N : Nat) (l r y z : Int), 0 ≤ l → l ≤ nl → nl - l < N → mq_bs l D (mq_c σ) (σ 250) (σ 251) r → (r ≠ -1 → y = σ 250 (D r) + mq_c σ r ∧ z = σ 251 (D r) + 1) → f_X12_best_u10 K (f_X12_best_u141 K) N σ x r y z l := by
    intro N
    induction N with
    | zero => intro l r y z l0 l1 hN; omega
    | succ N ih =>
      intro l r y z l0 l1 hN B E
      unfold f_X12_best_u10
      rw [b3]
      refine fun _ => ⟨fun q => ?_, fun q => ?_⟩
      · unfold f_X12_best_u141
        have : l = nl := by omega
        rw [this] at B
        exact k r B
      have ll : l < nl := by omega
      obtain ⟨d0, d1, d2, d3⟩ := hD l l0 ll
      obtain ⟨u1, u2⟩ := mq_c_r J l0 ll
      obtain ⟨v1, v2, -, -, -⟩ := b7 l l0 ll
      have ec : σ 220 (σ 237 l) = mq_c σ l := rfl
      have NX : ∀ r y z, mq_bs (l + 1) D (mq_c σ) (σ 250) (σ 251) r → (r ≠ -1 → y = σ 250 (D r) + mq_c σ r ∧ z = σ 251 (D r) + 1) → f_X12_best_u135 K (f_X12_best_u10 K (f_X12_best_u141 K) N) σ x r y z l := fun r y z B E => by
        unfold f_X12_best_u135
        refine ⟨mt_I (by omega) (by omega), fun y1 e => ?_⟩
        subst e
        exact ih (l + 1) r y z (by omega) (by omega) (by omega) B E
      -- r stays
      have KEEP : (σ 250 (D l) ≠ -1 → r ≠ -1 ∧ (σ 250 (D r) + mq_c σ r < σ 250 (D l) + mq_c σ l ∨ (σ 250 (D r) + mq_c σ r = σ 250 (D l) + mq_c σ l ∧ σ 251 (D r) ≤ σ 251 (D l)))) → f_X12_best_u135 K (f_X12_best_u10 K (f_X12_best_u141 K) N) σ x r y z l := fun ho => NX r y z (by
        rcases B with ⟨e1, e2⟩ | ⟨e1, e2, e3, e4⟩
        · refine Or.inl ⟨e1, fun l' a b => ?_⟩
          by_cases w : l' = l
          · rw [w]
            by_cases w2 : σ 250 (D l) = -1
            · exact w2
            · exact absurd e1 (ho w2).1
          · exact e2 l' a (by omega)
        · refine Or.inr ⟨e1, by omega, e3, fun l' a b e => ?_⟩
          by_cases w : l' = l
          · rw [w] at e ⊢; exact (ho e).2
          · exact e4 l' a (by omega) e) E
      have U : f_X12_best_u46 K (f_X12_best_u10 K (f_X12_best_u141 K) N) σ x r y z l (D l) := by
        unfold f_X12_best_u46
        rw [ec]
        refine ⟨d0, by omega, fun _ => ⟨fun np => ?_, fun np => KEEP (fun w => absurd np w)⟩⟩
        have pb := mq_P_b b2 P d0 d1 np
        have TAKE : ∀ y7, y7 = σ 250 (D l) + mq_c σ l → (r = -1 ∨ σ 250 (D l) + mq_c σ l < σ 250 (D r) + mq_c σ r ∨ (σ 250 (D l) + mq_c σ l = σ 250 (D r) + mq_c σ r ∧ σ 251 (D l) < σ 251 (D r))) → f_X12_best_u118 K (f_X12_best_u10 K (f_X12_best_u141 K) N) σ x l (D l) y7 := fun y7 e7 im => by
          unfold f_X12_best_u118
          refine ⟨d0, by omega, fun _ => ⟨⟨by omega, by omega⟩, fun y3 e3 => NX l y7 y3 ?_ (fun _ => ⟨e7, e3⟩)⟩⟩
          refine Or.inr ⟨l0, by omega, np, fun l' a b e => ?_⟩
          by_cases w : l' = l
          · rw [w]; right; omega
          · rcases B with ⟨e1, e2⟩ | ⟨e1, e2, e3, e4⟩
            · exact absurd (e2 l' a (by omega)) e
            · have := e4 l' a (by omega) e
              omega
        refine ⟨d0, by omega, fun _ => ⟨l0, by omega, fun _ => ⟨v1, v2, fun _ => ⟨⟨by omega, by omega⟩, fun y7 e7 => ⟨fun z1 => TAKE y7 e7 (Or.inl z1), fun z1 => ?_⟩⟩⟩⟩⟩
        obtain ⟨E1, E2⟩ := E z1
        refine ⟨fun g => KEEP (fun _ => ⟨z1, by omega⟩), fun g => ⟨fun g2 => TAKE y7 e7 (by omega), fun g2 => ⟨d0, by omega, fun _ => ⟨⟨by omega, by omega⟩, fun g3 => TAKE y7 e7 (by omega), fun g3 => KEEP (fun _ => ⟨z1, by omega⟩)⟩⟩⟩⟩
      refine ⟨fun z1 => ?_, fun z1 => ?_⟩
      · obtain ⟨h0, h1⟩ := hx z1
        refine ⟨mt_I (by omega) (by omega), mt_I (by omega) (by omega), by omega, by omega, ?_⟩
        rw [d2 z1]
        exact fun _ => U
      · refine ⟨l0, by omega, ?_⟩
        rw [d3 z1]
        exact fun _ => U
  unfold f_X12_best f_X12_best_u0
  exact ⟨7, L 7 0 (-1) 0 0 (by omega) b4 (by omega) (Or.inl ⟨rfl, fun l a b => absurd b (by omega)⟩) (fun z => absurd rfl z)⟩
theorem s_targetOf {K : Int → ml_St → Prop} {h told ts cap nl w : Int} {tb cl pr sz : Int → Int} {T : Int → Int → Int} {τ0 σ : ml_St} {F : Nat → Int → Int} {c : Nat} (J : mq_J h told ts cap tb cl pr sz T τ0 nl F c σ) (md : mt_md told (mt_mk h T sz) w) (k : ∀ r : Int, (r = -1 ∨ (0 ≤ r ∧ r < c)) → K r σ) : f_X12_targetOf σ w K := by
  obtain ⟨b1, b2, b3, b4, b5, b6, b7⟩ := mq_J_b J
  have h2 := J.1.1.1.2.2.1
  have h5 := J.1.1.1.2.2.2.1
  obtain ⟨g1, g2, g3, g4, g5⟩ := IM_w J.1.1 md
  have L : ∀ (N : Nat) (i x : Int), 0 ≤ i → i ≤ c → c - i < N → f_X12_targetOf_u9 K (f_X12_targetOf_u30 K) (f_X12_targetOf_u39 K) N σ x i := by
    intro N
    induction N with
    | zero => intro i x i0 i1 hN; omega
    | succ N ih =>
      intro i x i0 i1 hN
      unfold f_X12_targetOf_u9
      rw [b1]
      refine fun _ => ⟨fun q => ?_, fun q => ⟨i0, by omega, fun _ => ⟨fun _ => ⟨mt_I (by omega) (by omega), fun y e => ?_⟩, fun _ => ?_⟩⟩⟩
      · unfold f_X12_targetOf_u39; exact k _ (Or.inl rfl)
      · subst e; exact ih (i + 1) x (by omega) (by omega) (by omega)
      · unfold f_X12_targetOf_u30; exact k _ (Or.inr ⟨i0, by omega⟩)
  unfold f_X12_targetOf f_X12_targetOf_u0
  exact s_codeOf h2 h5 ⟨g4, by omega⟩ J.1.1.1.1 g2 (fun e e0 e1 => (g1.1 e e0 e1).1) (fun _ => ⟨c + 1, L _ 0 _ (by omega) (by omega) (by omega)⟩)
theorem m_cheapest {Q : Int → ml_St → Prop} {h told ts cap set w x : Int} {tb cl pr sz : Int → Int} {T : Int → Int → Int} {τ : ml_St} (i : IM h told ts cap tb cl pr sz T τ) (k : ∀ r σ, IM h told ts cap tb cl pr sz T σ → (∀ j, j < 215 → σ j = τ j) → Q r σ) : f_X12_cheapest τ set w x Q := by
  unfold f_X12_cheapest f_X12_cheapest_u0
  unfold f_X12_cheapest_u22
  refine s_isLetters i (fun σ i' f _ => ⟨fun _ => k _ σ i' f, fun z => absurd rfl z⟩) (fun σ nl L _ => ⟨fun z => absurd z (by omega), fun _ => m_isMade L.1 (fun md _ => ⟨fun z => absurd z (by omega), fun _ => ⟨fun x0 => s_joinsAll L (fun σ0 F c J0 => s_targetOf J0 md (fun t ht _ => ⟨fun nt => ?_, fun _ => k _ σ0 J0.1.1 J0.1.2.1⟩)), fun _ => k _ σ L.1 L.2.1⟩⟩) (fun _ _ => ⟨fun _ => k _ σ L.1 L.2.1, fun z => absurd rfl z⟩)⟩)
  have t0 : 0 ≤ t := by omega
  have t1 : t < c := by omega
  refine s_prices J0 t0 t1 (fun σ J P O => ?_)
  obtain ⟨b1, b2, b3, b4, b5, b6, b7⟩ := mq_J_b J
  have KK := fun r => k r σ J.1.1 J.1.2.1
  refine s_best (D := σ 242) J P (fun l l0 l1 => ⟨(b7 l l0 l1).2.2.2.1, (b7 l l0 l1).2.2.2.2, fun z => absurd rfl z, fun _ => rfl⟩) (fun z => absurd rfl z) (fun r B _ => ⟨fun rn => ?_, fun _ => KK _⟩)
  rcases B with ⟨e1, _⟩ | ⟨r0, r1, pn, _⟩
  · exact absurd e1 rn
  obtain ⟨v1, v2, -, v4, v5⟩ := b7 r r0 r1
  have pb := mq_P_b b2 P v4 v5 pn
  obtain ⟨u1, u2⟩ := mq_c_r J r0 r1
  have ec : σ 220 (σ 237 r) = mq_c σ r := rfl
  -- along the way
  have W : x ≤ 1000000 → ∀ (N : Nat) (l s j : Int), 0 ≤ j → j ≤ x → x - j < N → 0 ≤ l → l < nl → 0 ≤ s → s < c → σ 250 s ≠ -1 → x - j ≤ σ 251 s → f_X12_cheapest_u130 Q (f_X12_cheapest_u165 Q) N σ x l s j := by
    intro xb N
    induction N with
    | zero => intro l s j j0 j1 hN; omega
    | succ N ih =>
      intro l s j j0 j1 hN l0 l1 s0 s1 ps ws
      unfold f_X12_cheapest_u130
      refine ⟨fun _ => ?_, fun q => ?_⟩
      · unfold f_X12_cheapest_u165
        exact ⟨l0, by omega, fun _ => KK _⟩
      have st : s ≠ t := fun e => by rw [e, P.2.1] at ws; omega
      have sb := mq_P_b b2 P s0 s1 ps
      refine s_best (D := mq_x σ s) J P (fun l l0 l1 => ?_) (fun _ => ⟨s0, s1⟩) (fun r2 B _ => ?_)
      · obtain ⟨w1, w2, -, -⟩ := J.2.2.2 s l s0 l0 l1 (by omega)
        exact ⟨w1, w2, fun _ => rfl, fun z => by omega⟩
      obtain ⟨l', l0', l1', a1, a2⟩ := P.2.2.2 s s0 s1 st ps
      rcases B with ⟨_, e2⟩ | ⟨g0, g1, g2, g3⟩
      · exact absurd (e2 l' l0' l1') a1
      obtain ⟨w1, w2, -, -⟩ := J.2.2.2 s r2 s0 g0 g1 (by omega)
      have o := O s r2 s0 s1 st g0 g1 g2
      have g4 := g3 l' l0' l1' a1
      refine ⟨mt_I (by omega) (by omega), mt_I (by omega) (by omega), by omega, by omega, fun _ y6 e6 => ⟨⟨by omega, by omega⟩, fun y7 e7 => ?_⟩⟩
      subst e7; subst e6
      have ex : σ 240 (6 * s + r2) = mq_x σ s r2 := rfl
      rw [ex] at w1 w2 ⊢
      exact ih r2 (mq_x σ s r2) (j + 1) (by omega) (by omega) (by omega) g0 g1 w1 w2 g2 (by omega)
  rw [ec]
  refine ⟨r0, by omega, fun _ y13 e13 => ?_⟩
  subst e13
  refine ⟨v4, by omega, fun _ => ⟨⟨by omega, by omega⟩, fun y16 e16 => ⟨fun z => ⟨fun z2 => ⟨fun q => ⟨(x + 1).toNat, W (by omega) _ r _ 0 (by omega) (by omega) (by omega) r0 r1 v4 v5 pn (by omega)⟩, fun _ => KK _⟩, fun _ => KK _⟩, fun z => ⟨v4, by omega, fun _ => ⟨r0, by omega, fun _ => ⟨v1, v2, fun _ => ⟨⟨by omega, by omega⟩, KK _⟩⟩⟩⟩⟩⟩⟩
