/-! class and model find the same places in the same order -/
theorem mt_bc_at {set : Int} : ∀ (n : Nat) (a : Int), 0 ≤ a → a < mt_bc set n → ∃ v : Nat, v < n ∧ mb_t set v = 1 ∧ mt_bc set v = a := by
  intro n
  induction n with
  | zero => intro a a0 a1; have : mt_bc set 0 = 0 := rfl; omega
  | succ n ih =>
    intro a a0 a1
    rw [mt_bc_s] at a1
    rcases mb_t_01 set n with z | z
    · obtain ⟨v, v1, v2, v3⟩ := ih a a0 (by omega)
      exact ⟨v, by omega, v2, v3⟩
    · by_cases q : a < mt_bc set n
      · obtain ⟨v, v1, v2, v3⟩ := ih a a0 q
        exact ⟨v, by omega, v2, v3⟩
      · exact ⟨n, by omega, z, by omega⟩
theorem ic_L_u {set told L L' : Int} {l l' : Int → Int} (x : ic_L set told L l) (y : ic_L set told L' l') : L = L' ∧ ∀ a, 0 ≤ a → a < L → l a = l' a ∧ 0 ≤ l a ∧ l a < told := by
  refine ⟨by rw [x.1, y.1], fun a a0 a1 => ?_⟩
  rw [x.1] at a1
  obtain ⟨v, v1, v2, v3⟩ := mt_bc_at _ a a0 a1
  have h1 := x.2 v (by omega) v2
  have h2 := y.2 v (by omega) v2
  rw [v3] at h1 h2
  omega
theorem mt_bf_u {h L P P' : Int} {lt lt' S S' nx nx' : Int → Int → Int} (h2 : 2 ≤ h) (h5 : h ≤ 5) (B : mt_bf h L lt S nx P P 0) (B' : mt_bf h L lt' S' nx' P' P' 0) (el : ∀ a, 0 ≤ a → a < L → lt a = lt' a ∧ mt_M h (lt a)) : P = P' ∧ (∀ p, 0 ≤ p → p < P → mt_eq h (S p) (S' p)) ∧ ∀ p a, 0 ≤ p → p < P → 0 ≤ a → a < L → nx p a = nx' p a := by
  obtain ⟨y1, y2, y3, y4, y5, y6⟩ := B
  obtain ⟨z1, z2, z3, z4, z5, z6⟩ := B'
  have sy : ∀ {f g : Int → Int}, mt_eq h f g → mt_eq h g f := fun e x x0 x1 => (e x x0 x1).symm
  have tr : ∀ {f g k : Int → Int}, mt_eq h f g → mt_eq h g k → mt_eq h f k := fun e e2 x x0 x1 => (e x x0 x1).trans (e2 x x0 x1)
  have K : ∀ n : Nat, ∀ p a : Int, 0 ≤ p → p < n → p < P → p < P' → 0 ≤ a → a < L → nx p a = nx' p a ∧ mt_eq h (S (nx p a)) (S' (nx p a)) := by
    intro n
    induction n with
    | zero => intro p a p0 p1; omega
    | succ n ih =>
      intro p a p0 p1 pP pP' a0 aL
      by_cases q : p < n
      · exact ih p a p0 q pP pP' a0 aL
      · have ep : mt_eq h (S p) (S' p) := by
          by_cases zp : p = 0
          · rw [zp]; exact tr y2 (sy z2)
          · obtain ⟨p', a', x0, x1, x2, x3, x4, x5⟩ := y6 p (by omega) pP
            have := (ih p' a' x0 (by omega) (by omega) (by omega) x2 x3).2
            rw [x5] at this; exact this
        have M : ∀ m : Nat, ∀ a : Int, 0 ≤ a → a < m → a < L → nx p a = nx' p a ∧ mt_eq h (S (nx p a)) (S' (nx p a)) := by
          intro m
          induction m with
          | zero => intro a a0 a1; omega
          | succ m ihm =>
            intro a a0 a1 aL
            by_cases qa : a < m
            · exact ihm a a0 qa aL
            · obtain ⟨c1, c2, c3, c4⟩ := y5 p a p0 a0 aL (Or.inl pP)
              obtain ⟨d1, d2, d3, d4⟩ := z5 p a p0 a0 aL (Or.inl pP')
              obtain ⟨l1, l2⟩ := el a a0 aL
              have wM : mt_M h (mq_w (S p)) := mt_eq_M (mq_w_e h5) (y3 p p0 pP)
              have we : mt_eq h (mq_w (S p)) (mq_w (S' p)) := tr (mq_w_e h5) (tr ep (sy (mq_w_e h5)))
              have cc := (mt_both_p (by omega) h5 wM l2 we (by unfold mq_w; rw [if_neg (by omega), if_neg (by omega)])).1
              rw [l1] at cc c3
              have SS : mt_eq h (S (nx p a)) (S' (nx' p a)) := tr c3 (tr cc (sy d3))
              have old : ∀ p' a', 0 ≤ p' → 0 ≤ a' → a' < L → mt_bl p' a' p a → nx p' a' = nx' p' a' ∧ mt_eq h (S (nx p' a')) (S' (nx p' a')) := fun p' a' e0 e1 e2 e3 => by
                rcases e3 with e3 | ⟨e3, e4⟩
                · exact ih p' a' e0 (by omega) (by omega) (by omega) e1 e2
                · rw [e3]; exact ihm a' e1 (by omega) e2
              rcases Int.lt_trichotomy (nx p a) (nx' p a) with z | z | z
              · exfalso
                obtain ⟨p', a', e0, e1, e2, e3, e4⟩ := d4 (nx p a) c1 z
                obtain ⟨o1, o2⟩ := old p' a' e0 e1 e2 e3
                rw [o1, e4] at o2
                exact z4 _ _ c1 z d2 (tr (sy o2) SS)
              · refine ⟨z, ?_⟩
                have := SS
                rw [← z] at this; exact this
              · exfalso
                obtain ⟨p', a', e0, e1, e2, e3, e4⟩ := c4 (nx' p a) d1 z
                obtain ⟨o1, o2⟩ := old p' a' e0 e1 e2 e3
                rw [e4] at o2
                exact y4 _ _ d1 z c2 (tr o2 (sy SS))
        exact M (a.toNat + 1) a a0 (by omega) aL
  have PP : P = P' := by
    rcases Int.lt_trichotomy P P' with z | z | z
    · obtain ⟨p, a, x0, x1, x2, x3, x4, x5⟩ := z6 P (by omega) z
      have k := (K (p.toNat + 1) p a x0 (by omega) (by omega) (by omega) x2 x3).1
      have := (y5 p a x0 x2 x3 (Or.inl x1)).2.1
      omega
    · exact z
    · obtain ⟨p, a, x0, x1, x2, x3, x4, x5⟩ := y6 P' (by omega) z
      have k := (K (p.toNat + 1) p a x0 (by omega) (by omega) (by omega) x2 x3).1
      have := (z5 p a x0 x2 x3 (Or.inl x1)).2.1
      omega
  refine ⟨PP, fun p p0 p1 => ?_, fun p a p0 p1 a0 a1 => (K (p.toNat + 1) p a p0 (by omega) p1 (by omega) a0 a1).1⟩
  by_cases zp : p = 0
  · rw [zp]; exact tr y2 (sy z2)
  · obtain ⟨p', a', x0, x1, x2, x3, x4, x5⟩ := y6 p (by omega) p1
    have := (K (p'.toNat + 1) p' a' x0 (by omega) (by omega) (by omega) x2 x3).2
    rw [x5] at this; exact this
theorem ms_u {h told ts cap : Int} {tb cl pr sz : Int → Int} {T : Int → Int → Int} {σ : ml_St} {set L P L' : Int} {l l' : Int → Int} {S nx mo nx' : Int → Int → Int} {F : Nat → Int → Int} {c : Nat} (i : IC h told ts cap tb cl pr sz T σ) (C : ms_C h told (mt_mk h T sz) set L P l S nx mo) (M : ms_M h told (mt_mk h T sz) set L' l' F c nx') : L = L' ∧ P = (c : Int) + 1 ∧ (∀ a, 0 ≤ a → a < L → l a = l' a ∧ 0 ≤ l a ∧ l a < told) ∧ (∀ p, 0 ≤ p → p < P → mt_eq h (S p) (ms_S h F p)) ∧ ∀ p a, 0 ≤ p → p < P → 0 ≤ a → a < L → nx p a = nx' p a := by
  obtain ⟨e1, e2⟩ := ic_L_u C.2.2.2.2.1 M.1
  subst e1
  obtain ⟨u1, u2, u3⟩ := mt_bf_u i.1.2.2.1 i.1.2.2.2.1 C.2.2.2.2.2.1 M.2 (fun a a0 a1 => by
    obtain ⟨x1, x2, x3⟩ := e2 a a0 a1
    exact ⟨by show mt_mk h T sz (l a) = mt_mk h T sz (l' a); rw [x1], (IC_w i x2 x3).2.2.1⟩)
  exact ⟨rfl, u1, e2, u2, u3⟩
/-! cheapest: both sides answer the same -/
theorem mx_am_c {f g : Int → Int} : ∀ n : Nat, (∀ a : Int, 0 ≤ a → a ≤ n → f a = g a) → mx_am f n = mx_am g n := by
  intro n
  induction n with
  | zero => intro _; rfl
  | succ n ih =>
    intro h
    have e := ih (fun a a0 a1 => h a a0 (by omega))
    have p := mx_am_p (f := g) n
    rw [mx_am_s, mx_am_s, e, h ((n : Int) + 1) (by omega) (by omega), h (mx_am g n) p.1 (by omega)]
theorem mx_pa_c {L P : Int} {f g nx nx' : Int → Int → Int} (L1 : 1 ≤ L) (P0 : 1 ≤ P) (h : ∀ p a, 0 ≤ p → p < P → 0 ≤ a → a < L → f p a = g p a ∧ nx p a = nx' p a ∧ 1 ≤ nx p a ∧ nx p a < P) : ∀ n : Nat, mx_pa L f nx n = mx_pa L g nx' n ∧ mx_b L f nx n = mx_b L g nx' n ∧ 0 ≤ mx_pa L f nx n ∧ mx_pa L f nx n < P := by
  intro n
  induction n with
  | zero => exact ⟨rfl, mx_am_c _ (fun a a0 a1 => (h 0 a (by omega) (by omega) a0 (by omega)).1), Int.le_refl 0, P0⟩
  | succ n ih =>
    obtain ⟨i1, i2, i3, i4⟩ := ih
    have b := mx_b_p (f := f) (nx := nx) L1 n
    obtain ⟨x1, x2, x3, x4⟩ := h (mx_pa L f nx n) (mx_b L f nx n) i3 i4 b.1 b.2
    have e : mx_pa L f nx (n + 1) = mx_pa L g nx' (n + 1) := by rw [mx_pa_s, mx_pa_s, x2, i1, i2]
    refine ⟨e, ?_, by rw [mx_pa_s]; omega, by rw [mx_pa_s]; exact x4⟩
    unfold mx_b
    rw [← e]
    exact mx_am_c _ (fun a a0 a1 => (h _ a (by rw [mx_pa_s]; omega) (by rw [mx_pa_s]; exact x4) a0 (by omega)).1)
theorem mx_run {P L t : Int} {W R w : Int → Int} {nx : Int → Int → Int} {n : Nat} (G : mx_bw P L t W nx R) (L1 : 1 ≤ L) (P0 : 1 ≤ P) (P1 : P ≤ 946) (hW : ∀ a, W a = w a * 1048576 + 1) (w1 : ∀ a, 0 ≤ a → a < L → 1 ≤ w a) (hn : ∀ p a, 0 ≤ p → p < P → 0 ≤ a → a < L → 1 ≤ nx p a ∧ nx p a < P) (n1 : 1 ≤ n) (nt : ∀ j : Nat, 1 ≤ j → j < n → mx_pa L (mx_f W R nx) nx j ≠ t) (ne : mx_pa L (mx_f W R nx) nx n = t ∨ n = 2838) (rf : R (mx_pa L (mx_f W R nx) nx 1) < 1000000000000000000) : mx_V L W R nx = mx_sp (fun j => w (mx_b L (mx_f W R nx) nx j)) n * 1048576 + n := by
  have pr : ∀ j : Nat, 0 ≤ mx_pa L (mx_f W R nx) nx j ∧ mx_pa L (mx_f W R nx) nx j < P := fun j => (mx_pa_c L1 P0 (fun p a p0 p1 a0 a1 => ⟨rfl, rfl, hn p a p0 p1 a0 a1⟩) j).2.2
  have p1 : ∀ j : Nat, 1 ≤ mx_pa L (mx_f W R nx) nx (j + 1) := fun j => by
    have b := mx_b_p (f := mx_f W R nx) (nx := nx) L1 j
    rw [mx_pa_s]; exact (hn _ _ (pr j).1 (pr j).2 b.1 b.2).1
  have K : ∀ j : Nat, j + 1 ≤ n → mx_V L W R nx = mx_sp (fun j => w (mx_b L (mx_f W R nx) nx j)) (j + 1) * 1048576 + ((j : Int) + 1) + R (mx_pa L (mx_f W R nx) nx (j + 1)) ∧ R (mx_pa L (mx_f W R nx) nx (j + 1)) < 1000000000000000000 ∧ mx_ct R (R (mx_pa L (mx_f W R nx) nx (j + 1))) (P - 1).toNat + j ≤ 945 := by
    intro j
    induction j with
    | zero =>
      intro _
      refine ⟨?_, rf, by have := mx_ct_le (R := R) (v := R (mx_pa L (mx_f W R nx) nx (0 + 1))) (P - 1).toNat; omega⟩
      have : mx_V L W R nx = W (mx_b L (mx_f W R nx) nx 0) + R (mx_pa L (mx_f W R nx) nx (0 + 1)) := rfl
      have s1 : mx_sp (fun j => w (mx_b L (mx_f W R nx) nx j)) (0 + 1) = 0 + w (mx_b L (mx_f W R nx) nx 0) := rfl
      rw [this, s1, hW]; omega
    | succ j ih =>
      intro hj
      obtain ⟨i1, i2, i3⟩ := ih (by omega)
      have b := mx_b_p (f := mx_f W R nx) (nx := nx) L1 (j + 1)
      have q1 := p1 j
      have q2 := (pr (j + 1)).2
      have qt := nt (j + 1) (by omega) (by omega)
      obtain ⟨a, a0, a1, ea⟩ := G.2.2.2 _ q1 q2 qt i2
      have g := G.2.2.1 _ _ q1 q2 qt b.1 b.2
      have am := (mx_am_p (f := mx_f W R nx (mx_pa L (mx_f W R nx) nx (j + 1))) (L - 1).toNat).2.2.1 a a0 (by omega)
      have e1 : mx_f W R nx (mx_pa L (mx_f W R nx) nx (j + 1)) (mx_am (mx_f W R nx (mx_pa L (mx_f W R nx) nx (j + 1))) (L - 1).toNat) = W (mx_b L (mx_f W R nx) nx (j + 1)) + R (mx_pa L (mx_f W R nx) nx (j + 1 + 1)) := rfl
      have e2 : mx_f W R nx (mx_pa L (mx_f W R nx) nx (j + 1)) a = W a + R (nx (mx_pa L (mx_f W R nx) nx (j + 1)) a) := rfl
      have e3 : nx (mx_pa L (mx_f W R nx) nx (j + 1)) (mx_b L (mx_f W R nx) nx (j + 1)) = mx_pa L (mx_f W R nx) nx (j + 1 + 1) := rfl
      rw [e1, e2] at am
      rw [e3] at g
      have tight : R (mx_pa L (mx_f W R nx) nx (j + 1)) = W (mx_b L (mx_f W R nx) nx (j + 1)) + R (mx_pa L (mx_f W R nx) nx (j + 1 + 1)) := by omega
      have ww := w1 _ b.1 b.2
      have s1 : mx_sp (fun j => w (mx_b L (mx_f W R nx) nx j)) (j + 1 + 1) = mx_sp (fun j => w (mx_b L (mx_f W R nx) nx j)) (j + 1) + w (mx_b L (mx_f W R nx) nx (j + 1)) := rfl
      have hb := hW (mx_b L (mx_f W R nx) nx (j + 1))
      have cs := mx_ct_s (R := R) (v := R (mx_pa L (mx_f W R nx) nx (j + 1 + 1))) (w := R (mx_pa L (mx_f W R nx) nx (j + 1))) (q := mx_pa L (mx_f W R nx) nx (j + 1 + 1)) (Int.le_refl _) (by omega) (p1 (j + 1)) (P - 1).toNat (by have := (pr (j + 1 + 1)).2; omega)
      refine ⟨?_, by omega, by omega⟩
      rw [i1, tight, s1, hb]; omega
  obtain ⟨m, rfl⟩ : ∃ m, n = m + 1 := ⟨n - 1, by omega⟩
  obtain ⟨k1, k2, k3⟩ := K m (Nat.le_refl _)
  rcases ne with e | e
  · rw [e, G.1] at k1
    rw [k1]; omega
  · omega
theorem mx_bw_c {P L t : Int} {W W' R : Int → Int} {nx nx' : Int → Int → Int} (hw : ∀ a, 0 ≤ a → a < L → W a = W' a) (hn : ∀ p a, 0 ≤ p → p < P → 0 ≤ a → a < L → nx p a = nx' p a) (G : mx_bw P L t W' nx' R) : mx_bw P L t W nx R := by
  obtain ⟨g1, g2, g3, g4⟩ := G
  refine ⟨g1, g2, fun p a p1 p2 pt a0 a1 => ?_, fun p p1 p2 pt pf => ?_⟩
  · rw [hw a a0 a1, hn p a (by omega) p2 a0 a1]; exact g3 p a p1 p2 pt a0 a1
  · obtain ⟨a, a0, a1, e⟩ := g4 p p1 p2 pt pf
    exact ⟨a, a0, a1, by rw [hw a a0 a1, hn p a (by omega) p2 a0 a1]; exact e⟩
theorem mx_t_u {h told ts cap t t' : Int} {tb cl pr sz : Int → Int} {T : Int → Int → Int} {σ : ml_St} {set L P L' : Int} {l l' V : Int → Int} {S nx mo nx' : Int → Int → Int} {F : Nat → Int → Int} {c : Nat} (i : IC h told ts cap tb cl pr sz T σ) (C : ms_C h told (mt_mk h T sz) set L P l S nx mo) (M : ms_M h told (mt_mk h T sz) set L' l' F c nx') (t0 : 1 ≤ t) (t1 : t < P) (et : mt_eq h (S t) V) (s0 : 1 ≤ t') (s1 : t' < (c : Int) + 1) (es : mt_eq h (F (t' - 1).toNat) V) : t = t' := by
  obtain ⟨u1, u2, u3, u4, u5⟩ := ms_u i C M
  have y4 := C.2.2.2.2.2.1.2.2.2.1
  have e : mt_eq h (S t) (S t') := fun x x0 x1 => by
    have a := u4 t' (by omega) (by omega) x x0 x1
    rw [ms_S_p (by omega)] at a
    rw [et x x0 x1, a, es x x0 x1]
  rcases Int.lt_trichotomy t t' with z | z | z
  · exact absurd e (y4 t t' t0 z (by omega))
  · exact z
  · exact absurd (fun x x0 x1 => (e x x0 x1).symm) (y4 t' t s0 z t1)
theorem ms_cheap {h told ts cap t t' x : Int} {tb cl pr sz : Int → Int} {T : Int → Int → Int} {σ : ml_St} {set L P L' : Int} {l l' V W W' E R : Int → Int} {S nx mo nx' : Int → Int → Int} {F : Nat → Int → Int} {c n : Nat} (i : IC h told ts cap tb cl pr sz T σ) (C : ms_C h told (mt_mk h T sz) set L P l S nx mo) (M : ms_M h told (mt_mk h T sz) set L' l' F c nx') (t0 : 1 ≤ t) (t1 : t < P) (et : mt_eq h (S t) V) (hW : ∀ i, W i = pr (l i) * 1048576 + 1) (cz : mx_cz P L t W nx n E) (s0 : 1 ≤ t') (s1 : t' < (c : Int) + 1) (es : mt_eq h (F (t' - 1).toNat) V) (hW' : ∀ i, W' i = pr (l' i) * 1048576 + 1) (G : mx_bw ((c : Int) + 1) L' t' W' nx' R) (rf : R (mx_pa L' (mx_f W' R nx') nx' 1) < 1000000000000000000) : mx_an L pr l W E nx n x = mx_mn L' l' W' R nx' x := by
  have ett := mx_t_u i C M t0 t1 et s0 s1 es
  subst ett
  obtain ⟨u1, u2, u3, u4, u5⟩ := ms_u i C M
  subst u1
  subst u2
  obtain ⟨L1, L6, P1, P9, c5, c6, c7⟩ := id C
  have Weq : ∀ a, 0 ≤ a → a < L → W a = W' a := fun a a0 a1 => by rw [hW, hW', (u3 a a0 a1).1]
  have hn : ∀ p a, 0 ≤ p → p < (c : Int) + 1 → 0 ≤ a → a < L → 1 ≤ nx p a ∧ nx p a < (c : Int) + 1 := fun p a p0 p1 a0 a1 => by
    obtain ⟨z1, z2, -⟩ := c6.2.2.2.2.1 p a p0 a0 a1 (Or.inl p1)
    exact ⟨z1, z2⟩
  have G' := mx_bw_c Weq u5 G
  obtain ⟨eR, n1, n2, nt, ne⟩ := cz
  have eR := eR R G'
  have cg := mx_pa_c (f := mx_f W E nx) (g := mx_f W R nx) (nx := nx) (nx' := nx) L1 P1 (fun p a p0 p1 a0 a1 => by
    obtain ⟨z1, z2⟩ := hn p a p0 p1 a0 a1
    exact ⟨by unfold mx_f; rw [eR _ z1 z2], rfl, z1, z2⟩)
  have cg2 := mx_pa_c (f := mx_f W R nx) (g := mx_f W' R nx') (nx := nx) (nx' := nx') L1 P1 (fun p a p0 p1 a0 a1 => by
    obtain ⟨z1, z2⟩ := hn p a p0 p1 a0 a1
    exact ⟨by unfold mx_f; rw [Weq a a0 a1, u5 p a p0 p1 a0 a1], u5 p a p0 p1 a0 a1, z1, z2⟩)
  have w1 : ∀ a, 0 ≤ a → a < L → 1 ≤ pr (l a) := fun a a0 a1 => by
    have t16 := i.1.2.2.2.2.2
    obtain ⟨x1, x2, x3⟩ := u3 a a0 a1
    exact (i.2.2.2.1 (l a) x2 (by omega)).2.1
  have run := mx_run (n := n) (w := fun a => pr (l a)) G' L1 P1 P9 hW w1 hn n1 (fun j j1 j2 => by rw [← (cg j).1]; exact nt j j1 j2) (by rw [← (cg n).1]; exact ne) (by rw [(cg2 1).1]; exact rf)
  have eV : mx_V L W R nx = mx_V L W' R nx' := by
    have b := mx_b_p (f := mx_f W R nx) (nx := nx) L1 0
    unfold mx_V mx_f
    show W (mx_b L (mx_f W R nx) nx 0) + R (nx 0 (mx_b L (mx_f W R nx) nx 0)) = W' (mx_b L (mx_f W' R nx') nx' 0) + R (nx' 0 (mx_b L (mx_f W' R nx') nx' 0))
    rw [← (cg2 0).2.1, Weq _ b.1 b.2, u5 0 _ (by omega) (by omega) b.1 b.2]
  have esp : ∀ m : Nat, mx_sp (fun j => pr (l (mx_b L (mx_f W E nx) nx j))) m = mx_sp (fun j => pr (l (mx_b L (mx_f W R nx) nx j))) m := by
    intro m
    induction m with
    | zero => rfl
    | succ m ih => unfold mx_sp; rw [ih, (cg m).2.1]
  unfold mx_an mx_mn
  rw [← eV, run, esp]
  have d1 : (mx_sp (fun j => pr (l (mx_b L (mx_f W R nx) nx j))) n * 1048576 + (n : Int)) / 1048576 = mx_sp (fun j => pr (l (mx_b L (mx_f W R nx) nx j))) n := by omega
  have d2 : (mx_sp (fun j => pr (l (mx_b L (mx_f W R nx) nx j))) n * 1048576 + (n : Int)) % 1048576 = n := by omega
  rw [d1, d2]
  by_cases z1 : x = -2
  · rw [if_pos z1, if_pos z1]
  · rw [if_neg z1, if_neg z1]
    by_cases z2 : x = -1
    · rw [if_pos z2, if_pos z2]
    · rw [if_neg z2, if_neg z2]
      by_cases z3 : 0 ≤ x ∧ x < n
      · rw [if_pos z3, if_pos z3, (cg x.toNat).2.1, (cg2 x.toNat).2.1]
        have b := mx_b_p (f := mx_f W' R nx') (nx := nx') L1 x.toNat
        exact (u3 _ b.1 b.2).1
      · rw [if_neg z3, if_neg z3]
/-- the target is a place on both sides or on none -/
theorem ms_cheap_no {h told ts cap : Int} {tb cl pr sz : Int → Int} {T : Int → Int → Int} {σ : ml_St} {set L P L' : Int} {l l' V : Int → Int} {S nx mo nx' : Int → Int → Int} {F : Nat → Int → Int} {c : Nat} (i : IC h told ts cap tb cl pr sz T σ) (C : ms_C h told (mt_mk h T sz) set L P l S nx mo) (M : ms_M h told (mt_mk h T sz) set L' l' F c nx') : (∀ p, 1 ≤ p → p < P → ¬ mt_eq h (S p) V) ↔ ∀ i : Nat, i < c → ¬ mt_eq h (F i) V := by
  obtain ⟨u1, u2, u3, u4, u5⟩ := ms_u i C M
  constructor
  · intro no j hj e
    refine no (j + 1) (by omega) (by omega) (fun x x0 x1 => ?_)
    have a := u4 ((j : Int) + 1) (by omega) (by omega) x x0 x1
    rw [ms_S_s] at a
    rw [a, e x x0 x1]
  · intro no p p1 p2 e
    refine no (p - 1).toNat (by omega) (fun x x0 x1 => ?_)
    have a := u4 p (by omega) p2 x x0 x1
    rw [ms_S_p p1] at a
    rw [← a, e x x0 x1]
