/-! class and model find the same places in the same order -/
theorem mt_bc_at {set : Int} : ∀ (n : Nat) (a : Int), 0 ≤ a → a < mt_bc set n → ∃ v : Nat, v < n ∧ mb_t set v = 1 ∧ mt_bc set v = a := by
  intro n
  induction n with
  | zero => intro a a0 a1; have : mt_bc set 0 = 0 := rfl; omega
  | succ n ih =>
    intro a a0 a1
    rw [mt_bc_s] at a1
    rcases mb_t_01 set n with z | z
    · obtain ⟨v, v1, v2, v3⟩ := ih a a0 (by omega)
      exact ⟨v, by omega, v2, v3⟩
    · by_cases q : a < mt_bc set n
      · obtain ⟨v, v1, v2, v3⟩ := ih a a0 q
        exact ⟨v, by omega, v2, v3⟩
      · exact ⟨n, by omega, z, by omega⟩
theorem ic_L_u {set told L L' : Int} {l l' : Int → Int} (x : ic_L set told L l) (y : ic_L set told L' l') : L = L' ∧ ∀ a, 0 ≤ a → a < L → l a = l' a ∧ 0 ≤ l a ∧ l a < told := by
  refine ⟨by rw [x.1, y.1], fun a a0 a1 => ?_⟩
  rw [x.1] at a1
  obtain ⟨v, v1, v2, v3⟩ := mt_bc_at _ a a0 a1
  have h1 := x.2 v (by omega) v2
  have h2 := y.2 v (by omega) v2
  rw [v3] at h1 h2
  omega
theorem mt_bf_u {h L P P' : Int} {lt lt' S S' nx nx' : Int → Int → Int} (h2 : 2 ≤ h) (h5 : h ≤ 5) (B : mt_bf h L lt S nx P P 0) (B' : mt_bf h L lt' S' nx' P' P' 0) (el : ∀ a, 0 ≤ a → a < L → lt a = lt' a ∧ mt_M h (lt a)) : P = P' ∧ (∀ p, 0 ≤ p → p < P → mt_eq h (S p) (S' p)) ∧ ∀ p a, 0 ≤ p → p < P → 0 ≤ a → a < L → nx p a = nx' p a := by
  obtain ⟨y1, y2, y3, y4, y5, y6⟩ := B
  obtain ⟨z1, z2, z3, z4, z5, z6⟩ := B'
  have sy : ∀ {f g : Int → Int}, mt_eq h f g → mt_eq h g f := fun e x x0 x1 => (e x x0 x1).symm
  have tr : ∀ {f g k : Int → Int}, mt_eq h f g → mt_eq h g k → mt_eq h f k := fun e e2 x x0 x1 => (e x x0 x1).trans (e2 x x0 x1)
  have K : ∀ n : Nat, ∀ p a : Int, 0 ≤ p → p < n → p < P → p < P' → 0 ≤ a → a < L → nx p a = nx' p a ∧ mt_eq h (S (nx p a)) (S' (nx p a)) := by
    intro n
    induction n with
    | zero => intro p a p0 p1; omega
    | succ n ih =>
      intro p a p0 p1 pP pP' a0 aL
      by_cases q : p < n
      · exact ih p a p0 q pP pP' a0 aL
      · have ep : mt_eq h (S p) (S' p) := by
          by_cases zp : p = 0
          · rw [zp]; exact tr y2 (sy z2)
          · obtain ⟨p', a', x0, x1, x2, x3, x4, x5⟩ := y6 p (by omega) pP
            have := (ih p' a' x0 (by omega) (by omega) (by omega) x2 x3).2
            rw [x5] at this; exact this
        have M : ∀ m : Nat, ∀ a : Int, 0 ≤ a → a < m → a < L → nx p a = nx' p a ∧ mt_eq h (S (nx p a)) (S' (nx p a)) := by
          intro m
          induction m with
          | zero => intro a a0 a1; omega
          | succ m ihm =>
            intro a a0 a1 aL
            by_cases qa : a < m
            · exact ihm a a0 qa aL
            · obtain ⟨c1, c2, c3, c4⟩ := y5 p a p0 a0 aL (Or.inl pP)
              obtain ⟨d1, d2, d3, d4⟩ := z5 p a p0 a0 aL (Or.inl pP')
              obtain ⟨l1, l2⟩ := el a a0 aL
              have wM : mt_M h (mq_w (S p)) := mt_eq_M (mq_w_e h5) (y3 p p0 pP)
              have we : mt_eq h (mq_w (S p)) (mq_w (S' p)) := tr (mq_w_e h5) (tr ep (sy (mq_w_e h5)))
              have cc := (mt_both_p (by omega) h5 wM l2 we (by unfold mq_w; rw [if_neg (by omega), if_neg (by omega)])).1
              rw [l1] at cc c3
              have SS : mt_eq h (S (nx p a)) (S' (nx' p a)) := tr c3 (tr cc (sy d3))
              have old : ∀ p' a', 0 ≤ p' → 0 ≤ a' → a' < L → mt_bl p' a' p a → nx p' a' = nx' p' a' ∧ mt_eq h (S (nx p' a')) (S' (nx p' a')) := fun p' a' e0 e1 e2 e3 => by
                rcases e3 with e3 | ⟨e3, e4⟩
                · exact ih p' a' e0 (by omega) (by omega) (by omega) e1 e2
                · rw [e3]; exact ihm a' e1 (by omega) e2
              rcases Int.lt_trichotomy (nx p a) (nx' p a) with z | z | z
              · exfalso
                obtain ⟨p', a', e0, e1, e2, e3, e4⟩ := d4 (nx p a) c1 z
                obtain ⟨o1, o2⟩ := old p' a' e0 e1 e2 e3
                rw [o1, e4] at o2
                exact z4 _ _ c1 z d2 (tr (sy o2) SS)
              · refine ⟨z, ?_⟩
                have := SS
                rw [← z] at this; exact this
              · exfalso
                obtain ⟨p', a', e0, e1, e2, e3, e4⟩ := c4 (nx' p a) d1 z
                obtain ⟨o1, o2⟩ := old p' a' e0 e1 e2 e3
                rw [e4] at o2
                exact y4 _ _ d1 z c2 (tr o2 (sy SS))
        exact M (a.toNat + 1) a a0 (by omega) aL
  have PP : P = P' := by
    rcases Int.lt_trichotomy P P' with z | z | z
    · obtain ⟨p, a, x0, x1, x2, x3, x4, x5⟩ := z6 P (by omega) z
      have k := (K (p.toNat + 1) p a x0 (by omega) (by omega) (by omega) x2 x3).1
      have := (y5 p a x0 x2 x3 (Or.inl x1)).2.1
      omega
    · exact z
    · obtain ⟨p, a, x0, x1, x2, x3, x4, x5⟩ := y6 P' (by omega) z
      have k := (K (p.toNat + 1) p a x0 (by omega) (by omega) (by omega) x2 x3).1
      have := (z5 p a x0 x2 x3 (Or.inl x1)).2.1
      omega
  refine ⟨PP, fun p p0 p1 => ?_, fun p a p0 p1 a0 a1 => (K (p.toNat + 1) p a p0 (by omega) p1 (by omega) a0 a1).1⟩
  by_cases zp : p = 0
  · rw [zp]; exact tr y2 (sy z2)
  · obtain ⟨p', a', x0, x1, x2, x3, x4, x5⟩ := y6 p (by omega) p1
    have := (K (p'.toNat + 1) p' a' x0 (by omega) (by omega) (by omega) x2 x3).2
    rw [x5] at this; exact this
theorem ms_u {h told ts cap : Int} {tb cl pr sz : Int → Int} {T : Int → Int → Int} {σ : ml_St} {set L P L' : Int} {l l' : Int → Int} {S nx mo nx' : Int → Int → Int} {F : Nat → Int → Int} {c : Nat} (i : IC h told ts cap tb cl pr sz T σ) (C : ms_C h told (mt_mk h T sz) set L P l S nx mo) (M : ms_M h told (mt_mk h T sz) set L' l' F c nx') : L = L' ∧ P = (c : Int) + 1 ∧ (∀ a, 0 ≤ a → a < L → l a = l' a ∧ 0 ≤ l a ∧ l a < told) ∧ (∀ p, 0 ≤ p → p < P → mt_eq h (S p) (ms_S h F p)) ∧ ∀ p a, 0 ≤ p → p < P → 0 ≤ a → a < L → nx p a = nx' p a := by
  obtain ⟨e1, e2⟩ := ic_L_u C.2.2.2.2.1 M.1
  subst e1
  obtain ⟨u1, u2, u3⟩ := mt_bf_u i.1.2.2.1 i.1.2.2.2.1 C.2.2.2.2.2.1 M.2 (fun a a0 a1 => by
    obtain ⟨x1, x2, x3⟩ := e2 a a0 a1
    exact ⟨by show mt_mk h T sz (l a) = mt_mk h T sz (l' a); rw [x1], (IC_w i x2 x3).2.2.1⟩)
  exact ⟨rfl, u1, e2, u2, u3⟩
/-! shortest: both sides answer the same -/
theorem mz_w_c {L P : Int} {nx e nx' e' : Int → Int → Int} (P0 : 1 ≤ P) (zn : mz_n L P nx e) (h : ∀ p a, 0 ≤ p → p < P → 0 ≤ a → a < L → nx p a = nx' p a ∧ e p a = e' p a) : ∀ (m : Nat) (v p l : Int), mz_w L nx e m v p l → mz_w L nx' e' m v p l := by
  intro m
  induction m with
  | zero => intro v p l x; exact x
  | succ m ih =>
    intro v p l x
    obtain ⟨v', p', l', a, x1, a0, a1, x2, x3, x4⟩ := x
    obtain ⟨r1, r2, r3, r4⟩ := mz_w_r P0 zn m v' p' l' x1
    obtain ⟨e1, e2⟩ := h p' a r1 r2 a0 a1
    exact ⟨v', p', l', a, ih v' p' l' x1, a0, a1, x2, by rw [x3, e1], by rw [x4, e2]⟩
theorem mz_d_r {L : Int} {nx e : Int → Int → Int} (n : ∀ m v p l, mz_w L nx e m v p l → 0 ≤ v) (L6 : L ≤ 6) : ∀ (m : Nat) (v p l : Int) (i : Nat), mz_w L nx e m v p l → i < m → 0 ≤ mz_d v i ∧ mz_d v i < L := by
  intro m
  induction m with
  | zero => intro v p l i _ h; omega
  | succ m ih =>
    intro v p l i x hi
    obtain ⟨v', p', l', a, x1, a0, a1, x2, x3, x4⟩ := x
    have r := n _ _ _ _ x1
    cases i with
    | zero =>
      show 0 ≤ v % 7 - 1 ∧ v % 7 - 1 < L
      omega
    | succ i =>
      have : mz_d v (i + 1) = mz_d (v / 7) i := rfl
      rw [this, show v / 7 = v' by omega]
      exact ih v' p' l' i x1 (by omega)
theorem ms_short_eq {h told ts cap : Int} {tb cl pr sz : Int → Int} {T : Int → Int → Int} {σ : ml_St} {set L P L' : Int} {l l' : Int → Int} {S nx mo nx' : Int → Int → Int} {F : Nat → Int → Int} {c : Nat} (i : IC h told ts cap tb cl pr sz T σ) (C : ms_C h told (mt_mk h T sz) set L P l S nx mo) (M : ms_M h told (mt_mk h T sz) set L' l' F c nx') : ∀ p a, 0 ≤ p → p < P → 0 ≤ a → a < L → nx p a = nx' p a ∧ mt_both h (mq_w (S p)) (mt_mk h T sz (l a)) 20 = mt_both h (mq_w (ms_S h F p)) (mt_mk h T sz (l' a)) 20 ∧ mt_cl h (S p) cl = mt_cl h (ms_S h F p) cl := fun p a p0 p1 a0 a1 => by
  have h2 := i.1.2.2.1
  have h5 := i.1.2.2.2.1
  obtain ⟨u1, u2, u3, u4, u5⟩ := ms_u i C M
  obtain ⟨x1, x2, x3⟩ := u3 a a0 a1
  have wM : mt_M h (mq_w (S p)) := mt_eq_M (mq_w_e h5) (C.2.2.2.2.2.1.2.2.1 p p0 p1)
  have we : mt_eq h (mq_w (S p)) (mq_w (ms_S h F p)) := fun y y0 y1 => by rw [mq_w_e h5 y y0 y1, mq_w_e h5 y y0 y1]; exact u4 p p0 p1 y y0 y1
  refine ⟨u5 p a p0 p1 a0 a1, ?_, mt_cl_c (by omega) (C.2.2.2.2.2.1.2.2.1 p p0 p1) i.2.2.1.2.2.2.1 (u4 p p0 p1)⟩
  rw [← x1]
  exact (mt_both_p (b := mt_mk h T sz (l a)) (by omega) h5 wM (IC_w i x2 x3).2.2.1 we (by unfold mq_w; rw [if_neg (by omega), if_neg (by omega)])).2
/-- a word of one side is one of the other -/
theorem ms_short_w {h told ts cap x : Int} {tb cl pr sz : Int → Int} {T : Int → Int → Int} {σ : ml_St} {set L P L' : Int} {l l' : Int → Int} {S nx mo nx' : Int → Int → Int} {F : Nat → Int → Int} {c : Nat} (i : IC h told ts cap tb cl pr sz T σ) (C : ms_C h told (mt_mk h T sz) set L P l S nx mo) (zn : mz_n L P nx (fun p a => mt_both h (mq_w (S p)) (mt_mk h T sz (l a)) 20)) (M : ms_M h told (mt_mk h T sz) set L' l' F c nx') (m : Nat) (v : Int) : (∃ p l9, mz_w L nx (fun p a => mt_both h (mq_w (S p)) (mt_mk h T sz (l a)) 20) m v p l9 ∧ l9 + mt_cl h (S p) cl = x) ↔ ∃ p l9, mz_w L' nx' (fun p a => mt_both h (mq_w (ms_S h F p)) (mt_mk h T sz (l' a)) 20) m v p l9 ∧ l9 + mt_cl h (ms_S h F p) cl = x := by
  have u1 := (ms_u i C M).1
  subst u1
  have eq := ms_short_eq i C M
  have P0 := C.2.2.1
  have L1 := C.1
  have zn' : mz_n L P nx' (fun p a => mt_both h (mq_w (ms_S h F p)) (mt_mk h T sz (l' a)) 20) := fun p a p0 p1 a0 a1 => by
    have z := zn p a p0 p1 a0 a1
    obtain ⟨y1, y2, -⟩ := eq p a p0 p1 a0 a1
    rw [← y1]
    refine ⟨z.1, z.2.1, ?_⟩
    show 0 ≤ mt_both h (mq_w (ms_S h F p)) (mt_mk h T sz (l' a)) 20
    rw [← y2]
    exact z.2.2
  constructor
  · rintro ⟨p, l9, w, hx⟩
    obtain ⟨r1, r2, -, -⟩ := mz_w_r P0 zn m v p l9 w
    exact ⟨p, l9, mz_w_c P0 zn (fun p a p0 p1 a0 a1 => ⟨(eq p a p0 p1 a0 a1).1, (eq p a p0 p1 a0 a1).2.1⟩) m v p l9 w, by rw [← (eq p 0 r1 r2 (by omega) (by omega)).2.2]; exact hx⟩
  · rintro ⟨p, l9, w, hx⟩
    obtain ⟨r1, r2, -, -⟩ := mz_w_r P0 zn' m v p l9 w
    exact ⟨p, l9, mz_w_c P0 zn' (fun p a p0 p1 a0 a1 => ⟨(eq p a p0 p1 a0 a1).1.symm, (eq p a p0 p1 a0 a1).2.1.symm⟩) m v p l9 w, by rw [(eq p 0 r1 r2 (by omega) (by omega)).2.2]; exact hx⟩
theorem ms_short_no {h told ts cap x : Int} {tb cl pr sz : Int → Int} {T : Int → Int → Int} {σ : ml_St} {set L P L' : Int} {l l' : Int → Int} {S nx mo nx' : Int → Int → Int} {F : Nat → Int → Int} {c : Nat} (i : IC h told ts cap tb cl pr sz T σ) (C : ms_C h told (mt_mk h T sz) set L P l S nx mo) (zn : mz_n L P nx (fun p a => mt_both h (mq_w (S p)) (mt_mk h T sz (l a)) 20)) (M : ms_M h told (mt_mk h T sz) set L' l' F c nx') {m : Nat} {v : Int} (no : mz_N L nx (fun p a => mt_both h (mq_w (S p)) (mt_mk h T sz (l a)) 20) (fun p => mt_cl h (S p) cl) x) (mM : mz_M L' nx' (fun p a => mt_both h (mq_w (ms_S h F p)) (mt_mk h T sz (l' a)) 20) (fun p => mt_cl h (ms_S h F p) cl) x m v) : False := by
  obtain ⟨m1, m2, m3⟩ := mM
  obtain ⟨p, l9, w, hx⟩ := (ms_short_w i C zn M m v).2 m2
  obtain ⟨m', rfl⟩ : ∃ m', m = m' + 1 := ⟨m - 1, by omega⟩
  exact no m' v p l9 w hx
theorem ms_short_no2 {h told ts cap x : Int} {tb cl pr sz : Int → Int} {T : Int → Int → Int} {σ : ml_St} {set L P L' : Int} {l l' : Int → Int} {S nx mo nx' : Int → Int → Int} {F : Nat → Int → Int} {c : Nat} (i : IC h told ts cap tb cl pr sz T σ) (C : ms_C h told (mt_mk h T sz) set L P l S nx mo) (zn : mz_n L P nx (fun p a => mt_both h (mq_w (S p)) (mt_mk h T sz (l a)) 20)) (M : ms_M h told (mt_mk h T sz) set L' l' F c nx') {m : Nat} {v : Int} (no : mz_N L' nx' (fun p a => mt_both h (mq_w (ms_S h F p)) (mt_mk h T sz (l' a)) 20) (fun p => mt_cl h (ms_S h F p) cl) x) (mM : mz_M L nx (fun p a => mt_both h (mq_w (S p)) (mt_mk h T sz (l a)) 20) (fun p => mt_cl h (S p) cl) x m v) : False := by
  obtain ⟨m1, m2, m3⟩ := mM
  obtain ⟨p, l9, w, hx⟩ := (ms_short_w i C zn M m v).1 m2
  obtain ⟨m', rfl⟩ : ∃ m', m = m' + 1 := ⟨m - 1, by omega⟩
  exact no m' v p l9 w hx
theorem ms_short {h told ts cap x y : Int} {tb cl pr sz : Int → Int} {T : Int → Int → Int} {σ : ml_St} {set L P L' : Int} {l l' : Int → Int} {S nx mo nx' : Int → Int → Int} {F : Nat → Int → Int} {c : Nat} (i : IC h told ts cap tb cl pr sz T σ) (C : ms_C h told (mt_mk h T sz) set L P l S nx mo) (zn : mz_n L P nx (fun p a => mt_both h (mq_w (S p)) (mt_mk h T sz (l a)) 20)) (M : ms_M h told (mt_mk h T sz) set L' l' F c nx') {m m' : Nat} {v v' : Int} (a : mz_M L nx (fun p a => mt_both h (mq_w (S p)) (mt_mk h T sz (l a)) 20) (fun p => mt_cl h (S p) cl) x m v) (b : mz_M L' nx' (fun p a => mt_both h (mq_w (ms_S h F p)) (mt_mk h T sz (l' a)) 20) (fun p => mt_cl h (ms_S h F p) cl) x m' v') : mz_an l m v y = mz_an l' m' v' y := by
  obtain ⟨a1, a2, a3⟩ := a
  obtain ⟨b1, b2, b3⟩ := b
  have wv : ∀ m v p l9, mz_w L nx (fun p a => mt_both h (mq_w (S p)) (mt_mk h T sz (l a)) 20) m v p l9 → 0 ≤ v := fun m v p l9 w => (mz_w_r C.2.2.1 zn m v p l9 w).2.2.2
  have e1 : v ≤ v' := by
    obtain ⟨p, l9, w, hx⟩ := (ms_short_w i C zn M m' v').2 b2
    obtain ⟨n, rfl⟩ : ∃ n, m' = n + 1 := ⟨m' - 1, by omega⟩
    exact a3 n v' p l9 w hx
  have e2 : v' ≤ v := by
    obtain ⟨p, l9, w, hx⟩ := (ms_short_w i C zn M m v).1 a2
    obtain ⟨n, rfl⟩ : ∃ n, m = n + 1 := ⟨m - 1, by omega⟩
    exact b3 n v p l9 w hx
  have e : v = v' := by omega
  subst e
  obtain ⟨p1, l1, w1, -⟩ := a2
  obtain ⟨p2, l2, w2, -⟩ := (ms_short_w i C zn M m' v).2 b2
  have em := mz_w_m wv C.2.1 m m' v _ _ _ _ w1 w2
  subst em
  unfold mz_an
  by_cases z : y = -1
  · rw [if_pos z, if_pos z]
  · rw [if_neg z, if_neg z]
    by_cases z2 : 0 ≤ y ∧ y < m
    · rw [if_pos z2, if_pos z2]
      obtain ⟨d0, d1⟩ := mz_d_r wv C.2.1 m v _ _ (m - 1 - y.toNat) w1 (by omega)
      exact ((ms_u i C M).2.2.1 _ d0 d1).1
    · rw [if_neg z2, if_neg z2]
