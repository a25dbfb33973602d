/-! the model: best, targetOf, cheapest -/
/-- what best finds among the letters, each of which leads to D l -/
def mq_bs (nl : Int) (D co p st : Int → Int) (r : Int) : Prop := (r = -1 ∧ ∀ l, 0 ≤ l → l < nl → p (D l) = -1) ∨ (0 ≤ r ∧ r < nl ∧ p (D r) ≠ -1 ∧ ∀ l, 0 ≤ l → l < nl → p (D l) ≠ -1 → p (D r) + co r < p (D l) + co l ∨ (p (D r) + co r = p (D l) + co l ∧ (st (D r) < st (D l) ∨ (st (D r) = st (D l) ∧ r ≤ l))))
theorem s_best {K : Int → ml_St → Prop} {h told ts cap nl t x : Int} {D : Int → Int} {tb cl pr sz : Int → Int} {T : Int → Int → Int} {τ0 σ : ml_St} {F : Nat → Int → Int} {c : Nat} (J : mq_J h told ts cap tb cl pr sz T τ0 nl F c σ) (P : mq_P c nl t (mq_x σ) (mq_c σ) (σ 250) (σ 251)) (hD : ∀ l, 0 ≤ l → l < nl → 0 ≤ D l ∧ D l < c ∧ (x ≠ -1 → σ 240 (6 * x + l) = D l) ∧ (x = -1 → σ 242 l = D l)) (hx : x ≠ -1 → 0 ≤ x ∧ x < c) (k : ∀ r, mq_bs nl D (mq_c σ) (σ 250) (σ 251) r → K r σ) : f_X12_best σ x K := by
  obtain ⟨b1, b2, b3, b4, b5, b6, b7⟩ := mq_J_b J
  have L : ∀ (N : Nat) (l r y z : Int), 0 ≤ l → l ≤ nl → nl - l < N → mq_bs l D (mq_c σ) (σ 250) (σ 251) r → (r ≠ -1 → y = σ 250 (D r) + mq_c σ r ∧ z = σ 251 (D r) + 1) → f_X12_best_u10 K (f_X12_best_u141 K) N σ x r y z l := by
    intro N
    induction N with
    | zero => intro l r y z l0 l1 hN; omega
    | succ N ih =>
      intro l r y z l0 l1 hN B E
      unfold f_X12_best_u10
      rw [b3]
      refine fun _ => ⟨fun q => ?_, fun q => ?_⟩
      · unfold f_X12_best_u141
        have : l = nl := by omega
        rw [this] at B
        exact k r B
      have ll : l < nl := by omega
      obtain ⟨d0, d1, d2, d3⟩ := hD l l0 ll
      obtain ⟨u1, u2⟩ := mq_c_r J l0 ll
      obtain ⟨v1, v2, -, -, -⟩ := b7 l l0 ll
      have ec : σ 220 (σ 237 l) = mq_c σ l := rfl
      have NX : ∀ r y z, mq_bs (l + 1) D (mq_c σ) (σ 250) (σ 251) r → (r ≠ -1 → y = σ 250 (D r) + mq_c σ r ∧ z = σ 251 (D r) + 1) → f_X12_best_u135 K (f_X12_best_u10 K (f_X12_best_u141 K) N) σ x r y z l := fun r y z B E => by
        unfold f_X12_best_u135
        refine ⟨mt_I (by omega) (by omega), fun y1 e => ?_⟩
        subst e
        exact ih (l + 1) r y z (by omega) (by omega) (by omega) B E
      -- r stays
      have KEEP : (σ 250 (D l) ≠ -1 → r ≠ -1 ∧ (σ 250 (D r) + mq_c σ r < σ 250 (D l) + mq_c σ l ∨ (σ 250 (D r) + mq_c σ r = σ 250 (D l) + mq_c σ l ∧ σ 251 (D r) ≤ σ 251 (D l)))) → f_X12_best_u135 K (f_X12_best_u10 K (f_X12_best_u141 K) N) σ x r y z l := fun ho => NX r y z (by
        rcases B with ⟨e1, e2⟩ | ⟨e1, e2, e3, e4⟩
        · refine Or.inl ⟨e1, fun l' a b => ?_⟩
          by_cases w : l' = l
          · rw [w]
            by_cases w2 : σ 250 (D l) = -1
            · exact w2
            · exact absurd e1 (ho w2).1
          · exact e2 l' a (by omega)
        · refine Or.inr ⟨e1, by omega, e3, fun l' a b e => ?_⟩
          by_cases w : l' = l
          · rw [w] at e ⊢; have := (ho e).2; omega
          · exact e4 l' a (by omega) e) E
      have U : f_X12_best_u46 K (f_X12_best_u10 K (f_X12_best_u141 K) N) σ x r y z l (D l) := by
        unfold f_X12_best_u46
        rw [ec]
        refine ⟨d0, by omega, fun _ => ⟨fun np => ?_, fun np => KEEP (fun w => absurd np w)⟩⟩
        have pb := mq_P_b b2 P d0 d1 np
        have TAKE : ∀ y7, y7 = σ 250 (D l) + mq_c σ l → (r = -1 ∨ σ 250 (D l) + mq_c σ l < σ 250 (D r) + mq_c σ r ∨ (σ 250 (D l) + mq_c σ l = σ 250 (D r) + mq_c σ r ∧ σ 251 (D l) < σ 251 (D r))) → f_X12_best_u118 K (f_X12_best_u10 K (f_X12_best_u141 K) N) σ x l (D l) y7 := fun y7 e7 im => by
          unfold f_X12_best_u118
          refine ⟨d0, by omega, fun _ => ⟨⟨by omega, by omega⟩, fun y3 e3 => NX l y7 y3 ?_ (fun _ => ⟨e7, e3⟩)⟩⟩
          refine Or.inr ⟨l0, by omega, np, fun l' a b e => ?_⟩
          by_cases w : l' = l
          · rw [w]; right; omega
          · rcases B with ⟨e1, e2⟩ | ⟨e1, e2, e3, e4⟩
            · exact absurd (e2 l' a (by omega)) e
            · have := e4 l' a (by omega) e
              omega
        refine ⟨d0, by omega, fun _ => ⟨l0, by omega, fun _ => ⟨v1, v2, fun _ => ⟨⟨by omega, by omega⟩, fun y7 e7 => ⟨fun z1 => TAKE y7 e7 (Or.inl z1), fun z1 => ?_⟩⟩⟩⟩⟩
        obtain ⟨E1, E2⟩ := E z1
        refine ⟨fun g => KEEP (fun _ => ⟨z1, by omega⟩), fun g => ⟨fun g2 => TAKE y7 e7 (by omega), fun g2 => ⟨d0, by omega, fun _ => ⟨⟨by omega, by omega⟩, fun g3 => TAKE y7 e7 (by omega), fun g3 => KEEP (fun _ => ⟨z1, by omega⟩)⟩⟩⟩⟩
      refine ⟨fun z1 => ?_, fun z1 => ?_⟩
      · obtain ⟨h0, h1⟩ := hx z1
        refine ⟨mt_I (by omega) (by omega), mt_I (by omega) (by omega), by omega, by omega, ?_⟩
        rw [d2 z1]
        exact fun _ => U
      · refine ⟨l0, by omega, ?_⟩
        rw [d3 z1]
        exact fun _ => U
  unfold f_X12_best f_X12_best_u0
  exact ⟨7, L 7 0 (-1) 0 0 (by omega) b4 (by omega) (Or.inl ⟨rfl, fun l a b => absurd b (by omega)⟩) (fun z => absurd rfl z)⟩
theorem mx_am_u {f : Int → Int} {n : Nat} {r : Int} (r0 : 0 ≤ r) (r1 : r ≤ n) (h1 : ∀ a : Int, 0 ≤ a → a ≤ n → f r < f a ∨ (f r = f a ∧ r ≤ a)) : r = mx_am f n := by
  obtain ⟨y1, y2, y3, y4⟩ := mx_am_p (f := f) n
  have a := h1 _ y1 y2
  have b := y3 r r0 r1
  rcases Int.lt_or_le r (mx_am f n) with z | z
  · have := y4 r r0 z; omega
  · omega
/-- prices and steps in one -/
def mx_R (p st : Int → Int) (s : Int) : Int := if p s = -1 then 1000000000000000000 else p s * 1048576 + st s
theorem mx_R_1 {p st : Int → Int} {s : Int} (h : p s = -1) : mx_R p st s = 1000000000000000000 := if_pos h
theorem mx_R_2 {p st : Int → Int} {s : Int} (h : p s ≠ -1) : mx_R p st s = p s * 1048576 + st s := if_neg h
theorem mq_bs_am {nl r : Int} {D co p st f : Int → Int} (b : mq_bs nl D co p st r) (rn : r ≠ -1) (hf : ∀ a, 0 ≤ a → a < nl → f a = co a * 1048576 + 1 + mx_R p st (D a)) (bd : ∀ l, 0 ≤ l → l < nl → p (D l) ≠ -1 → 0 ≤ p (D l) ∧ p (D l) ≤ 944000 ∧ 0 ≤ st (D l) ∧ st (D l) ≤ 944000) (cb : ∀ l, 0 ≤ l → l < nl → 1 ≤ co l ∧ co l ≤ 1000) : r = mx_am f (nl - 1).toNat ∧ 0 ≤ r ∧ r < nl ∧ p (D r) ≠ -1 := by
  rcases b with ⟨b1, _⟩ | ⟨b1, b2, b3, b4⟩
  · exact absurd b1 rn
  refine ⟨mx_am_u b1 (by omega) (fun a a0 a1 => ?_), b1, b2, b3⟩
  rw [hf r b1 b2, hf a a0 (by omega), mx_R_2 b3]
  have x := bd r b1 b2 b3
  have c := cb r b1 b2
  have c2 := cb a a0 (by omega)
  by_cases z : p (D a) = -1
  · rw [mx_R_1 z]; omega
  · rw [mx_R_2 z]
    have y := bd a a0 (by omega) z
    have := b4 a a0 (by omega) z
    omega
theorem s_targetOf {K : Int → ml_St → Prop} {h told ts cap nl w : Int} {tb cl pr sz : Int → Int} {T : Int → Int → Int} {τ0 σ : ml_St} {F : Nat → Int → Int} {c : Nat} (J : mq_J h told ts cap tb cl pr sz T τ0 nl F c σ) (md : mt_md told (mt_mk h T sz) w) (k : ∀ r : Int, (r = -1 ∧ ∀ i : Nat, i < c → ¬ mt_eq h (F i) (mt_mk h T sz w)) ∨ (0 ≤ r ∧ r < c ∧ mt_eq h (F r.toNat) (mt_mk h T sz w)) → K r σ) : f_X12_targetOf σ w K := by
  obtain ⟨b1, b2, b3, b4, b5, b6, b7⟩ := mq_J_b J
  have h2 := J.1.1.1.2.2.1
  have h5 := J.1.1.1.2.2.2.1
  obtain ⟨g1, g2, g3, g4, g5⟩ := IM_w J.1.1 md
  have cd : ∀ i : Nat, i < c → (σ 238 i = mt_cd h (mt_mk h T sz w) ↔ mt_eq h (F i) (mt_mk h T sz w)) := fun i hi => by
    obtain ⟨f1, f2, -, -⟩ := J.2.1.2.1 i hi
    rw [f2]; exact mt_cd_iff (by omega) h5 f1 g2
  have L : ∀ (N : Nat) (i : Nat), i ≤ c → (c : Int) - i < N → (∀ j : Nat, j < i → ¬ mt_eq h (F j) (mt_mk h T sz w)) → f_X12_targetOf_u9 K (f_X12_targetOf_u30 K) (f_X12_targetOf_u39 K) N σ (mt_cd h (mt_mk h T sz w)) i := by
    intro N
    induction N with
    | zero => intro i i1 hN; omega
    | succ N ih =>
      intro i i1 hN no
      unfold f_X12_targetOf_u9
      rw [b1]
      refine fun _ => ⟨fun q => ?_, fun q => ⟨by omega, by omega, fun _ => ⟨fun ne => ⟨mt_I (by omega) (by omega), fun y e => ?_⟩, fun e => ?_⟩⟩⟩
      · unfold f_X12_targetOf_u39; exact k _ (Or.inl ⟨rfl, fun j hj => no j (by omega)⟩)
      · rw [e]
        exact ih (i + 1) (by omega) (by omega) (fun j hj => by
          by_cases z : j = i
          · rw [z]; exact fun c' => ne ((cd i (by omega)).2 c')
          · exact no j (by omega))
      · unfold f_X12_targetOf_u30; exact k _ (Or.inr ⟨by omega, by omega, by rw [show ((i : Int)).toNat = i by omega]; exact (cd i (by omega)).1 e⟩)
  unfold f_X12_targetOf f_X12_targetOf_u0
  exact s_codeOf h2 h5 ⟨g4, by omega⟩ J.1.1.1.1 g2 (fun e e0 e1 => (g1.1 e e0 e1).1) (fun _ => ⟨c + 1, L _ 0 (by omega) (by omega) (fun j hj => absurd hj (by omega))⟩)
/-- the model's answer -/
def mx_V (L : Int) (W R : Int → Int) (nx : Int → Int → Int) : Int := mx_f W R nx 0 (mx_b L (mx_f W R nx) nx 0)
def mx_mn (L : Int) (l W R : Int → Int) (nx : Int → Int → Int) (x : Int) : Int := if x = -2 then mx_V L W R nx / 1048576 else if x = -1 then mx_V L W R nx % 1048576 else if 0 ≤ x ∧ x < mx_V L W R nx % 1048576 then l (mx_b L (mx_f W R nx) nx x.toNat) else -1
theorem m_cheapest {Q : Int → ml_St → Prop} {h told ts cap set w x : Int} {tb cl pr sz : Int → Int} {T : Int → Int → Int} {τ : ml_St} (i : IM h told ts cap tb cl pr sz T τ) (k0 : ¬ (mt_ls told (mt_mk h T sz) set ∧ mt_md told (mt_mk h T sz) w ∧ -2 ≤ x) → ∀ σ, IM h told ts cap tb cl pr sz T σ → (∀ j, j < 215 → σ j = τ j) → Q (-1) σ) (k1 : mt_ls told (mt_mk h T sz) set → mt_md told (mt_mk h T sz) w → -2 ≤ x → ∀ σ L l F (c : Nat) nx, IM h told ts cap tb cl pr sz T σ → (∀ j, j < 215 → σ j = τ j) → ms_M h told (mt_mk h T sz) set L l F c nx → (∀ i : Nat, i < c → ¬ mt_eq h (F i) (mt_mk h T sz w)) → Q (-1) σ) (k2 : mt_ls told (mt_mk h T sz) set → mt_md told (mt_mk h T sz) w → -2 ≤ x → ∀ σ L l F (c : Nat) nx t W R, IM h told ts cap tb cl pr sz T σ → (∀ j, j < 215 → σ j = τ j) → ms_M h told (mt_mk h T sz) set L l F c nx → 1 ≤ t → t < (c : Int) + 1 → mt_eq h (F (t - 1).toNat) (mt_mk h T sz w) → (∀ i, W i = pr (l i) * 1048576 + 1) → mx_bw ((c : Int) + 1) L t W nx R → R (mx_pa L (mx_f W R nx) nx 1) < 1000000000000000000 → Q (mx_mn L l W R nx x) σ) : f_X12_cheapest τ set w x Q := by
  unfold f_X12_cheapest f_X12_cheapest_u0
  unfold f_X12_cheapest_u22
  refine s_isLetters i (fun no σ i' f _ => ⟨fun _ => k0 (fun y => no y.1) _ i' f, fun z => absurd rfl z⟩) (fun ls σ nl L hl _ => ⟨fun z => absurd z (by omega), fun _ => m_isMade L.1 (fun md _ => ⟨fun z => absurd z (by omega), fun _ => ⟨fun x0 => s_joinsAll L (fun σ0 F c J0 hB hO h7 => s_targetOf J0 md (fun t ht _ => ⟨fun nt => ?_, fun e => k1 ls md x0 σ0 nl (σ 237) F c (ms_n σ0) J0.1.1 J0.1.2.1 ⟨hl, hB⟩ (ht.resolve_right (fun z => by omega)).2⟩)), fun z => k0 (fun y => z y.2.2) σ L.1 L.2.1⟩⟩) (fun no _ => ⟨fun _ => k0 (fun y => no y.2.1) σ L.1 L.2.1, fun z => absurd rfl z⟩)⟩)
  have kk := k2 ls md x0
  clear k0 k1 k2
  obtain ⟨t0, t1, eqt⟩ := ht.resolve_left (fun z => nt z.1)
  refine s_prices J0 t0 t1 (fun σ2 J f2 P O => ?_)
  obtain ⟨b1, b2, b3, b4, b5, b6, b7⟩ := mq_J_b J
  have hn2 : ms_n σ2 = ms_n σ0 := by
    funext p a
    unfold ms_n
    rw [f2 242 (by omega) (by omega), f2 240 (by omega) (by omega)]
  have e237 : σ2 237 = σ 237 := by rw [f2 237 (by omega) (by omega), h7]
  have B := hB
  unfold ms_B at B
  rw [← hn2] at B
  have cp : ∀ a, 0 ≤ a → a < nl → mq_c σ2 a = pr (σ 237 a) := fun a a0 a1 => by
    have v := b7 a a0 a1
    unfold mq_c
    rw [(J.1.1.2.2.2.1 (σ2 237 a) v.1 v.2.1).1, e237]
  have n0 : ∀ a, ms_n σ2 0 a = σ2 242 a + 1 := fun a => if_pos rfl
  have ns : ∀ s a, 0 ≤ s → ms_n σ2 (s + 1) a = mq_x σ2 s a + 1 := fun s a s0 => by
    unfold ms_n mq_x
    rw [if_neg (by omega), show s + 1 - 1 = s by omega]
  generalize hR : (fun q : Int => mx_R (σ2 250) (σ2 251) (q - 1)) = R
  have Re : ∀ q, R (q + 1) = mx_R (σ2 250) (σ2 251) q := fun q => by rw [← hR]; show mx_R _ _ (q + 1 - 1) = _; rw [show q + 1 - 1 = q by omega]
  generalize hW : (fun i : Int => pr (σ 237 i) * 1048576 + 1) = W
  have We : ∀ i, W i = pr (σ 237 i) * 1048576 + 1 := fun i => by rw [← hW]
  have Wc : ∀ a, 0 ≤ a → a < nl → W a = mq_c σ2 a * 1048576 + 1 := fun a a0 a1 => by rw [We, cp a a0 a1]
  have bd : ∀ s, 0 ≤ s → s < (c : Int) → σ2 250 s ≠ -1 → 0 ≤ σ2 250 s ∧ σ2 250 s ≤ 944000 ∧ 0 ≤ σ2 251 s ∧ σ2 251 s ≤ 944000 := fun s s0 s1 n => by have := mq_P_b b2 P s0 s1 n; omega
  have cb : ∀ l, 0 ≤ l → l < nl → 1 ≤ mq_c σ2 l ∧ mq_c σ2 l ≤ 1000 := fun l l0 l1 => mq_c_r J l0 l1
  have xb : ∀ s a, 0 ≤ s → s < (c : Int) → 0 ≤ a → a < nl → 0 ≤ mq_x σ2 s a ∧ mq_x σ2 s a < c := fun s a s0 s1 a0 a1 => by
    obtain ⟨w1, w2, -, -⟩ := J.2.2.2 s a s0 a0 a1 (by omega)
    exact ⟨w1, w2⟩
  have hf0 : ∀ a, 0 ≤ a → a < nl → mx_f W R (ms_n σ2) 0 a = mq_c σ2 a * 1048576 + 1 + mx_R (σ2 250) (σ2 251) (σ2 242 a) := fun a a0 a1 => by
    unfold mx_f; rw [n0, Re, Wc a a0 a1]
  have hfs : ∀ s a, 0 ≤ s → 0 ≤ a → a < nl → mx_f W R (ms_n σ2) (s + 1) a = mq_c σ2 a * 1048576 + 1 + mx_R (σ2 250) (σ2 251) (mq_x σ2 s a) := fun s a s0 a0 a1 => by
    unfold mx_f; rw [ns s a s0, Re, Wc a a0 a1]
  have G : mx_bw ((c : Int) + 1) nl (t + 1) W (ms_n σ2) R := by
    refine ⟨?_, fun p p1 p2 => ?_, fun p a p1 p2 pt a0 a1 => ?_, fun p p1 p2 pt pf => ?_⟩
    · rw [Re, mx_R_2 (by rw [P.1]; omega), P.1, P.2.1]; rfl
    · rw [show p = p - 1 + 1 by omega, Re]
      by_cases z : σ2 250 (p - 1) = -1
      · rw [mx_R_1 z]; omega
      · rw [mx_R_2 z]; have := bd (p - 1) (by omega) (by omega) z; omega
    · have o := O (p - 1) a (by omega) (by omega) (by omega) a0 a1
      rw [show p = p - 1 + 1 by omega, ns _ a (by omega), Re, Re, Wc a a0 a1]
      obtain ⟨w1, w2⟩ := xb (p - 1) a (by omega) (by omega) a0 a1
      have cc := cb a a0 a1
      unfold mq_o at o
      generalize mq_x σ2 (p - 1) a = y at *
      by_cases z : σ2 250 y = -1
      · rw [mx_R_1 z]
        by_cases z2 : σ2 250 (p - 1) = -1
        · rw [mx_R_1 z2]; omega
        · rw [mx_R_2 z2]; have := bd (p - 1) (by omega) (by omega) z2; omega
      · obtain ⟨o1, o2⟩ := o z
        rw [mx_R_2 z, mx_R_2 o1]
        have := bd _ w1 w2 z
        have := bd (p - 1) (by omega) (by omega) o1
        omega
    · rw [show p = p - 1 + 1 by omega, Re] at pf
      have z2 : σ2 250 (p - 1) ≠ -1 := fun z => by rw [mx_R_1 z] at pf; omega
      obtain ⟨l, l0, l1, a1, a2⟩ := P.2.2.2 (p - 1) (by omega) (by omega) (by omega) z2
      obtain ⟨o1, o2⟩ := O (p - 1) l (by omega) (by omega) (by omega) l0 l1 a1
      refine ⟨l, l0, l1, ?_⟩
      rw [show p = p - 1 + 1 by omega, ns _ l (by omega), Re, Re, Wc l l0 l1, mx_R_2 a1, mx_R_2 z2]
      omega
  -- something leads to the target
  have reach : ∀ (N : Nat) (q : Int), q < N → 1 ≤ q → q < (c : Int) + 1 → σ2 250 (q - 1) ≠ -1 → ∃ l, 0 ≤ l ∧ l < nl ∧ σ2 250 (σ2 242 l) ≠ -1 := by
    intro N
    induction N with
    | zero => intro q h0 h1; omega
    | succ N ih =>
      intro q h0 h1 h2 hq
      obtain ⟨p, a, y1, y2, y3, y4, y5, y6⟩ := B.2.2.2.2.2 q h1 h2
      by_cases z : p = 0
      · rw [z, n0] at y6
        exact ⟨a, y3, y4, by rw [show σ2 242 a = q - 1 by omega]; exact hq⟩
      · refine ih p (by omega) (by omega) (by omega) ?_
        rw [show p = p - 1 + 1 by omega, ns _ a (by omega)] at y6
        by_cases pt : p - 1 = t
        · rw [pt, P.1]; omega
        · exact (O (p - 1) a (by omega) (by omega) pt y3 y4 (by rw [show mq_x σ2 (p - 1) a = q - 1 by omega]; exact hq)).1
  obtain ⟨l9, l90, l91, l92⟩ := reach (c + 1) (t + 1) (by omega) (by omega) (by omega) (by rw [show t + 1 - 1 = t by omega, P.1]; omega)
  have KK := kk σ2 nl (σ 237) F c (ms_n σ2) (t + 1) W R J.1.1 J.1.2.1 ⟨hl, B⟩ (by omega) (by omega) (by rw [show t + 1 - 1 = t by omega]; exact eqt) We G
  refine s_best (D := σ2 242) J P (fun l l0 l1 => ⟨(b7 l l0 l1).2.2.2.1, (b7 l l0 l1).2.2.2.2, fun z => absurd rfl z, fun _ => rfl⟩) (fun z => absurd rfl z) (fun r Bs _ => ⟨fun rn => ?_, fun rn => ?_⟩)
  rotate_left
  · rcases Bs with ⟨_, e⟩ | ⟨e, _⟩
    · exact absurd (e l9 l90 l91) l92
    · omega
  obtain ⟨er, r0, r1, pn⟩ := mq_bs_am (f := mx_f W R (ms_n σ2) 0) Bs rn hf0 (fun l l0 l1 => bd _ (b7 l l0 l1).2.2.2.1 (b7 l l0 l1).2.2.2.2) cb
  have eb : mx_b nl (mx_f W R (ms_n σ2)) (ms_n σ2) 0 = r := er.symm
  have ep : mx_pa nl (mx_f W R (ms_n σ2)) (ms_n σ2) 1 = σ2 242 r + 1 := by rw [mx_pa_s, eb]; exact n0 r
  obtain ⟨v1, v2, -, v4, v5⟩ := b7 r r0 r1
  have pb := bd _ v4 v5 pn
  obtain ⟨u1, u2⟩ := cb r r0 r1
  have ec : σ2 220 (σ2 237 r) = mq_c σ2 r := rfl
  have eV : mx_V nl W R (ms_n σ2) = (mq_c σ2 r + σ2 250 (σ2 242 r)) * 1048576 + (σ2 251 (σ2 242 r) + 1) := by
    unfold mx_V
    rw [eb, hf0 r r0 r1, mx_R_2 pn]; omega
  have KK := KK (by rw [ep, Re, mx_R_2 pn]; omega)
  unfold mx_mn at KK
  rw [eV, show ((mq_c σ2 r + σ2 250 (σ2 242 r)) * 1048576 + (σ2 251 (σ2 242 r) + 1)) / 1048576 = mq_c σ2 r + σ2 250 (σ2 242 r) by omega, show ((mq_c σ2 r + σ2 250 (σ2 242 r)) * 1048576 + (σ2 251 (σ2 242 r) + 1)) % 1048576 = σ2 251 (σ2 242 r) + 1 by omega] at KK
  -- along the way
  have V : 0 ≤ x → x < σ2 251 (σ2 242 r) + 1 → ∀ (N : Nat) (j : Nat) (s : Int), j ≤ x → x - j < N → 0 ≤ s → s < c → mx_pa nl (mx_f W R (ms_n σ2)) (ms_n σ2) (j + 1) = s + 1 → 0 ≤ mx_b nl (mx_f W R (ms_n σ2)) (ms_n σ2) j → mx_b nl (mx_f W R (ms_n σ2)) (ms_n σ2) j < nl → σ2 250 s ≠ -1 → x - j ≤ σ2 251 s → f_X12_cheapest_u130 Q (f_X12_cheapest_u165 Q) N σ2 x (mx_b nl (mx_f W R (ms_n σ2)) (ms_n σ2) j) s j := by
    intro x0 x1 N
    induction N with
    | zero => intro j s j1 hN; omega
    | succ N ih =>
      intro j s j1 hN s0 s1 es l0 l1 ps ws
      unfold f_X12_cheapest_u130
      refine ⟨fun xj => ?_, fun q => ?_⟩
      · unfold f_X12_cheapest_u165
        have : j = x.toNat := by omega
        rw [if_neg (by omega), if_neg (by omega), if_pos ⟨x0, x1⟩, ← this, ← e237] at KK
        exact ⟨l0, by omega, fun _ => KK⟩
      have st : s ≠ t := fun e => by rw [e, P.2.1] at ws; omega
      refine s_best (D := mq_x σ2 s) J P (fun l l0 l1 => ⟨(xb s l s0 s1 l0 l1).1, (xb s l s0 s1 l0 l1).2, fun _ => rfl, fun z => by omega⟩) (fun _ => ⟨s0, s1⟩) (fun r2 B2 _ => ?_)
      obtain ⟨l', l0', l1', a1, a2⟩ := P.2.2.2 s s0 s1 st ps
      have rn2 : r2 ≠ -1 := fun e => by
        rcases B2 with ⟨_, e2⟩ | ⟨g0, _⟩
        · exact absurd (e2 l' l0' l1') a1
        · omega
      have g4 := B2
      obtain ⟨er2, g0, g1, g2⟩ := mq_bs_am (f := mx_f W R (ms_n σ2) (s + 1)) B2 rn2 (hfs s · s0) (fun l l0 l1 => bd _ (xb s l s0 s1 l0 l1).1 (xb s l s0 s1 l0 l1).2) cb
      have eb2 : mx_b nl (mx_f W R (ms_n σ2)) (ms_n σ2) (j + 1) = r2 := by unfold mx_b; rw [es]; exact er2.symm
      obtain ⟨w1, w2⟩ := xb s r2 s0 s1 g0 g1
      have o := O s r2 s0 s1 st g0 g1 g2
      have g5 := (g4.resolve_left (fun z => rn2 z.1)).2.2.2 l' l0' l1' a1
      refine ⟨mt_I (by omega) (by omega), mt_I (by omega) (by omega), by omega, by omega, fun _ y6 e6 => ⟨⟨by omega, by omega⟩, fun y7 e7 => ?_⟩⟩
      have ex : σ2 240 (6 * s + r2) = mq_x σ2 s r2 := rfl
      rw [ex] at e6
      rw [e7, ← eb2, e6]
      have := o.2
      exact ih (j + 1) (mq_x σ2 s r2) (by omega) (by omega) w1 w2 (by rw [mx_pa_s, es, eb2, ns s r2 s0]) (by omega) (by omega) g2 (by omega)
  rw [ec]
  refine ⟨r0, by omega, fun _ y13 e13 => ?_⟩
  subst e13
  refine ⟨v4, by omega, fun _ => ⟨⟨by omega, by omega⟩, fun y16 e16 => ⟨fun z => ⟨fun z2 => ⟨fun q => ⟨(x + 1).toNat, ?_⟩, fun q => ?_⟩, fun z2 => ?_⟩, fun z => ⟨v4, by omega, fun _ => ⟨r0, by omega, fun _ => ⟨v1, v2, fun _ => ⟨⟨by omega, by omega⟩, ?_⟩⟩⟩⟩⟩⟩⟩
  · have q1 : x < σ2 251 (σ2 242 r) + 1 := by rw [← e16]; exact q
    have x9 : 0 ≤ x := by omega
    have j9 : (((0 : Nat) : Int)) ≤ x := x9
    have j8 : x - (((0 : Nat) : Int)) < ((x + 1).toNat : Int) := by omega
    have j7 : x - (((0 : Nat) : Int)) ≤ σ2 251 (σ2 242 r) := by omega
    have g := V x9 q1 (x + 1).toNat (0 : Nat) (σ2 242 r) j9 j8 v4 v5 ep (by rw [eb]; exact r0) (by rw [eb]; exact r1) pn j7
    rw [eb] at g
    exact g
  · rw [if_neg z, if_neg z2, if_neg (by omega)] at KK; exact KK
  · rw [if_neg z, if_pos z2] at KK; rw [e16]; exact KK
  · rw [if_pos z, Int.add_comm] at KK; exact KK
