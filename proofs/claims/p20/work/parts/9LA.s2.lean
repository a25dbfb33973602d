/-! class and model find the same places in the same order -/
theorem mt_bc_at {set : Int} : ∀ (n : Nat) (a : Int), 0 ≤ a → a < mt_bc set n → ∃ v : Nat, v < n ∧ mb_t set v = 1 ∧ mt_bc set v = a := by
  intro n
  induction n with
  | zero => intro a a0 a1; have : mt_bc set 0 = 0 := rfl; omega
  | succ n ih =>
    intro a a0 a1
    rw [mt_bc_s] at a1
    rcases mb_t_01 set n with z | z
    · obtain ⟨v, v1, v2, v3⟩ := ih a a0 (by omega)
      exact ⟨v, by omega, v2, v3⟩
    · by_cases q : a < mt_bc set n
      · obtain ⟨v, v1, v2, v3⟩ := ih a a0 q
        exact ⟨v, by omega, v2, v3⟩
      · exact ⟨n, by omega, z, by omega⟩
theorem ic_L_u {set told L L' : Int} {l l' : Int → Int} (x : ic_L set told L l) (y : ic_L set told L' l') : L = L' ∧ ∀ a, 0 ≤ a → a < L → l a = l' a ∧ 0 ≤ l a ∧ l a < told := by
  refine ⟨by rw [x.1, y.1], fun a a0 a1 => ?_⟩
  rw [x.1] at a1
  obtain ⟨v, v1, v2, v3⟩ := mt_bc_at _ a a0 a1
  have h1 := x.2 v (by omega) v2
  have h2 := y.2 v (by omega) v2
  rw [v3] at h1 h2
  omega
theorem mt_bf_u {h L P P' : Int} {lt lt' S S' nx nx' : Int → Int → Int} (h2 : 2 ≤ h) (h5 : h ≤ 5) (B : mt_bf h L lt S nx P P 0) (B' : mt_bf h L lt' S' nx' P' P' 0) (el : ∀ a, 0 ≤ a → a < L → lt a = lt' a ∧ mt_M h (lt a)) : P = P' ∧ (∀ p, 0 ≤ p → p < P → mt_eq h (S p) (S' p)) ∧ ∀ p a, 0 ≤ p → p < P → 0 ≤ a → a < L → nx p a = nx' p a := by
  obtain ⟨y1, y2, y3, y4, y5, y6⟩ := B
  obtain ⟨z1, z2, z3, z4, z5, z6⟩ := B'
  have sy : ∀ {f g : Int → Int}, mt_eq h f g → mt_eq h g f := fun e x x0 x1 => (e x x0 x1).symm
  have tr : ∀ {f g k : Int → Int}, mt_eq h f g → mt_eq h g k → mt_eq h f k := fun e e2 x x0 x1 => (e x x0 x1).trans (e2 x x0 x1)
  have K : ∀ n : Nat, ∀ p a : Int, 0 ≤ p → p < n → p < P → p < P' → 0 ≤ a → a < L → nx p a = nx' p a ∧ mt_eq h (S (nx p a)) (S' (nx p a)) := by
    intro n
    induction n with
    | zero => intro p a p0 p1; omega
    | succ n ih =>
      intro p a p0 p1 pP pP' a0 aL
      by_cases q : p < n
      · exact ih p a p0 q pP pP' a0 aL
      · have ep : mt_eq h (S p) (S' p) := by
          by_cases zp : p = 0
          · rw [zp]; exact tr y2 (sy z2)
          · obtain ⟨p', a', x0, x1, x2, x3, x4, x5⟩ := y6 p (by omega) pP
            have := (ih p' a' x0 (by omega) (by omega) (by omega) x2 x3).2
            rw [x5] at this; exact this
        have M : ∀ m : Nat, ∀ a : Int, 0 ≤ a → a < m → a < L → nx p a = nx' p a ∧ mt_eq h (S (nx p a)) (S' (nx p a)) := by
          intro m
          induction m with
          | zero => intro a a0 a1; omega
          | succ m ihm =>
            intro a a0 a1 aL
            by_cases qa : a < m
            · exact ihm a a0 qa aL
            · obtain ⟨c1, c2, c3, c4⟩ := y5 p a p0 a0 aL (Or.inl pP)
              obtain ⟨d1, d2, d3, d4⟩ := z5 p a p0 a0 aL (Or.inl pP')
              obtain ⟨l1, l2⟩ := el a a0 aL
              have wM : mt_M h (mq_w (S p)) := mt_eq_M (mq_w_e h5) (y3 p p0 pP)
              have we : mt_eq h (mq_w (S p)) (mq_w (S' p)) := tr (mq_w_e h5) (tr ep (sy (mq_w_e h5)))
              have cc := (mt_both_p (by omega) h5 wM l2 we (by unfold mq_w; rw [if_neg (by omega), if_neg (by omega)])).1
              rw [l1] at cc c3
              have SS : mt_eq h (S (nx p a)) (S' (nx' p a)) := tr c3 (tr cc (sy d3))
              have old : ∀ p' a', 0 ≤ p' → 0 ≤ a' → a' < L → mt_bl p' a' p a → nx p' a' = nx' p' a' ∧ mt_eq h (S (nx p' a')) (S' (nx p' a')) := fun p' a' e0 e1 e2 e3 => by
                rcases e3 with e3 | ⟨e3, e4⟩
                · exact ih p' a' e0 (by omega) (by omega) (by omega) e1 e2
                · rw [e3]; exact ihm a' e1 (by omega) e2
              rcases Int.lt_trichotomy (nx p a) (nx' p a) with z | z | z
              · exfalso
                obtain ⟨p', a', e0, e1, e2, e3, e4⟩ := d4 (nx p a) c1 z
                obtain ⟨o1, o2⟩ := old p' a' e0 e1 e2 e3
                rw [o1, e4] at o2
                exact z4 _ _ c1 z d2 (tr (sy o2) SS)
              · refine ⟨z, ?_⟩
                have := SS
                rw [← z] at this; exact this
              · exfalso
                obtain ⟨p', a', e0, e1, e2, e3, e4⟩ := c4 (nx' p a) d1 z
                obtain ⟨o1, o2⟩ := old p' a' e0 e1 e2 e3
                rw [e4] at o2
                exact y4 _ _ d1 z c2 (tr o2 (sy SS))
        exact M (a.toNat + 1) a a0 (by omega) aL
  have PP : P = P' := by
    rcases Int.lt_trichotomy P P' with z | z | z
    · obtain ⟨p, a, x0, x1, x2, x3, x4, x5⟩ := z6 P (by omega) z
      have k := (K (p.toNat + 1) p a x0 (by omega) (by omega) (by omega) x2 x3).1
      have := (y5 p a x0 x2 x3 (Or.inl x1)).2.1
      omega
    · exact z
    · obtain ⟨p, a, x0, x1, x2, x3, x4, x5⟩ := y6 P' (by omega) z
      have k := (K (p.toNat + 1) p a x0 (by omega) (by omega) (by omega) x2 x3).1
      have := (z5 p a x0 x2 x3 (Or.inl x1)).2.1
      omega
  refine ⟨PP, fun p p0 p1 => ?_, fun p a p0 p1 a0 a1 => (K (p.toNat + 1) p a p0 (by omega) p1 (by omega) a0 a1).1⟩
  by_cases zp : p = 0
  · rw [zp]; exact tr y2 (sy z2)
  · obtain ⟨p', a', x0, x1, x2, x3, x4, x5⟩ := y6 p (by omega) p1
    have := (K (p'.toNat + 1) p' a' x0 (by omega) (by omega) (by omega) x2 x3).2
    rw [x5] at this; exact this
theorem ms_u {h told ts cap : Int} {tb cl pr sz : Int → Int} {T : Int → Int → Int} {σ : ml_St} {set L P L' : Int} {l l' : Int → Int} {S nx mo nx' : Int → Int → Int} {F : Nat → Int → Int} {c : Nat} (i : IC h told ts cap tb cl pr sz T σ) (C : ms_C h told (mt_mk h T sz) set L P l S nx mo) (M : ms_M h told (mt_mk h T sz) set L' l' F c nx') : L = L' ∧ P = (c : Int) + 1 ∧ (∀ a, 0 ≤ a → a < L → l a = l' a ∧ 0 ≤ l a ∧ l a < told) ∧ (∀ p, 0 ≤ p → p < P → mt_eq h (S p) (ms_S h F p)) ∧ ∀ p a, 0 ≤ p → p < P → 0 ≤ a → a < L → nx p a = nx' p a := by
  obtain ⟨e1, e2⟩ := ic_L_u C.2.2.2.2.1 M.1
  subst e1
  obtain ⟨u1, u2, u3⟩ := mt_bf_u i.1.2.2.1 i.1.2.2.2.1 C.2.2.2.2.2.1 M.2 (fun a a0 a1 => by
    obtain ⟨x1, x2, x3⟩ := e2 a a0 a1
    exact ⟨by show mt_mk h T sz (l a) = mt_mk h T sz (l' a); rw [x1], (IC_w i x2 x3).2.2.1⟩)
  exact ⟨rfl, u1, e2, u2, u3⟩
