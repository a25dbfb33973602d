/-! class and model find the same places in the same order -/
theorem mt_bc_at {set : Int} : ∀ (n : Nat) (a : Int), 0 ≤ a → a < mt_bc set n → ∃ v : Nat, v < n ∧ mb_t set v = 1 ∧ mt_bc set v = a := by
  intro n
  induction n with
  | zero => intro a a0 a1; have : mt_bc set 0 = 0 := rfl; omega
  | succ n ih =>
    intro a a0 a1
    rw [mt_bc_s] at a1
    rcases mb_t_01 set n with z | z
    · obtain ⟨v, v1, v2, v3⟩ := ih a a0 (by omega)
      exact ⟨v, by omega, v2, v3⟩
    · by_cases q : a < mt_bc set n
      · obtain ⟨v, v1, v2, v3⟩ := ih a a0 q
        exact ⟨v, by omega, v2, v3⟩
      · exact ⟨n, by omega, z, by omega⟩
theorem ic_L_u {set told L L' : Int} {l l' : Int → Int} (x : ic_L set told L l) (y : ic_L set told L' l') : L = L' ∧ ∀ a, 0 ≤ a → a < L → l a = l' a ∧ 0 ≤ l a ∧ l a < told := by
  refine ⟨by rw [x.1, y.1], fun a a0 a1 => ?_⟩
  rw [x.1] at a1
  obtain ⟨v, v1, v2, v3⟩ := mt_bc_at _ a a0 a1
  have h1 := x.2 v (by omega) v2
  have h2 := y.2 v (by omega) v2
  rw [v3] at h1 h2
  omega
theorem mt_bf_u {h L P P' : Int} {lt lt' S S' nx nx' : Int → Int → Int} (h2 : 2 ≤ h) (h5 : h ≤ 5) (B : mt_bf h L lt S nx P P 0) (B' : mt_bf h L lt' S' nx' P' P' 0) (el : ∀ a, 0 ≤ a → a < L → lt a = lt' a ∧ mt_M h (lt a)) : P = P' ∧ (∀ p, 0 ≤ p → p < P → mt_eq h (S p) (S' p)) ∧ ∀ p a, 0 ≤ p → p < P → 0 ≤ a → a < L → nx p a = nx' p a := by
  obtain ⟨y1, y2, y3, y4, y5, y6⟩ := B
  obtain ⟨z1, z2, z3, z4, z5, z6⟩ := B'
  have sy : ∀ {f g : Int → Int}, mt_eq h f g → mt_eq h g f := fun e x x0 x1 => (e x x0 x1).symm
  have tr : ∀ {f g k : Int → Int}, mt_eq h f g → mt_eq h g k → mt_eq h f k := fun e e2 x x0 x1 => (e x x0 x1).trans (e2 x x0 x1)
  have K : ∀ n : Nat, ∀ p a : Int, 0 ≤ p → p < n → p < P → p < P' → 0 ≤ a → a < L → nx p a = nx' p a ∧ mt_eq h (S (nx p a)) (S' (nx p a)) := by
    intro n
    induction n with
    | zero => intro p a p0 p1; omega
    | succ n ih =>
      intro p a p0 p1 pP pP' a0 aL
      by_cases q : p < n
      · exact ih p a p0 q pP pP' a0 aL
      · have ep : mt_eq h (S p) (S' p) := by
          by_cases zp : p = 0
          · rw [zp]; exact tr y2 (sy z2)
          · obtain ⟨p', a', x0, x1, x2, x3, x4, x5⟩ := y6 p (by omega) pP
            have := (ih p' a' x0 (by omega) (by omega) (by omega) x2 x3).2
            rw [x5] at this; exact this
        have M : ∀ m : Nat, ∀ a : Int, 0 ≤ a → a < m → a < L → nx p a = nx' p a ∧ mt_eq h (S (nx p a)) (S' (nx p a)) := by
          intro m
          induction m with
          | zero => intro a a0 a1; omega
          | succ m ihm =>
            intro a a0 a1 aL
            by_cases qa : a < m
            · exact ihm a a0 qa aL
            · obtain ⟨c1, c2, c3, c4⟩ := y5 p a p0 a0 aL (Or.inl pP)
              obtain ⟨d1, d2, d3, d4⟩ := z5 p a p0 a0 aL (Or.inl pP')
              obtain ⟨l1, l2⟩ := el a a0 aL
              have wM : mt_M h (mq_w (S p)) := mt_eq_M (mq_w_e h5) (y3 p p0 pP)
              have we : mt_eq h (mq_w (S p)) (mq_w (S' p)) := tr (mq_w_e h5) (tr ep (sy (mq_w_e h5)))
              have cc := (mt_both_p (by omega) h5 wM l2 we (by unfold mq_w; rw [if_neg (by omega), if_neg (by omega)])).1
              rw [l1] at cc c3
              have SS : mt_eq h (S (nx p a)) (S' (nx' p a)) := tr c3 (tr cc (sy d3))
              have old : ∀ p' a', 0 ≤ p' → 0 ≤ a' → a' < L → mt_bl p' a' p a → nx p' a' = nx' p' a' ∧ mt_eq h (S (nx p' a')) (S' (nx p' a')) := fun p' a' e0 e1 e2 e3 => by
                rcases e3 with e3 | ⟨e3, e4⟩
                · exact ih p' a' e0 (by omega) (by omega) (by omega) e1 e2
                · rw [e3]; exact ihm a' e1 (by omega) e2
              rcases Int.lt_trichotomy (nx p a) (nx' p a) with z | z | z
              · exfalso
                obtain ⟨p', a', e0, e1, e2, e3, e4⟩ := d4 (nx p a) c1 z
                obtain ⟨o1, o2⟩ := old p' a' e0 e1 e2 e3
                rw [o1, e4] at o2
                exact z4 _ _ c1 z d2 (tr (sy o2) SS)
              · refine ⟨z, ?_⟩
                have := SS
                rw [← z] at this; exact this
              · exfalso
                obtain ⟨p', a', e0, e1, e2, e3, e4⟩ := c4 (nx' p a) d1 z
                obtain ⟨o1, o2⟩ := old p' a' e0 e1 e2 e3
                rw [e4] at o2
                exact y4 _ _ d1 z c2 (tr o2 (sy SS))
        exact M (a.toNat + 1) a a0 (by omega) aL
  have PP : P = P' := by
    rcases Int.lt_trichotomy P P' with z | z | z
    · obtain ⟨p, a, x0, x1, x2, x3, x4, x5⟩ := z6 P (by omega) z
      have k := (K (p.toNat + 1) p a x0 (by omega) (by omega) (by omega) x2 x3).1
      have := (y5 p a x0 x2 x3 (Or.inl x1)).2.1
      omega
    · exact z
    · obtain ⟨p, a, x0, x1, x2, x3, x4, x5⟩ := y6 P' (by omega) z
      have k := (K (p.toNat + 1) p a x0 (by omega) (by omega) (by omega) x2 x3).1
      have := (z5 p a x0 x2 x3 (Or.inl x1)).2.1
      omega
  refine ⟨PP, fun p p0 p1 => ?_, fun p a p0 p1 a0 a1 => (K (p.toNat + 1) p a p0 (by omega) p1 (by omega) a0 a1).1⟩
  by_cases zp : p = 0
  · rw [zp]; exact tr y2 (sy z2)
  · obtain ⟨p', a', x0, x1, x2, x3, x4, x5⟩ := y6 p (by omega) p1
    have := (K (p'.toNat + 1) p' a' x0 (by omega) (by omega) (by omega) x2 x3).2
    rw [x5] at this; exact this
theorem ms_u {h told ts cap : Int} {tb cl pr sz : Int → Int} {T : Int → Int → Int} {σ : ml_St} {set L P L' : Int} {l l' : Int → Int} {S nx mo nx' : Int → Int → Int} {F : Nat → Int → Int} {c : Nat} (i : IC h told ts cap tb cl pr sz T σ) (C : ms_C h told (mt_mk h T sz) set L P l S nx mo) (M : ms_M h told (mt_mk h T sz) set L' l' F c nx') : L = L' ∧ P = (c : Int) + 1 ∧ (∀ a, 0 ≤ a → a < L → l a = l' a ∧ 0 ≤ l a ∧ l a < told) ∧ (∀ p, 0 ≤ p → p < P → mt_eq h (S p) (ms_S h F p)) ∧ ∀ p a, 0 ≤ p → p < P → 0 ≤ a → a < L → nx p a = nx' p a := by
  obtain ⟨e1, e2⟩ := ic_L_u C.2.2.2.2.1 M.1
  subst e1
  obtain ⟨u1, u2, u3⟩ := mt_bf_u i.1.2.2.1 i.1.2.2.2.1 C.2.2.2.2.2.1 M.2 (fun a a0 a1 => by
    obtain ⟨x1, x2, x3⟩ := e2 a a0 a1
    exact ⟨by show mt_mk h T sz (l a) = mt_mk h T sz (l' a); rw [x1], (IC_w i x2 x3).2.2.1⟩)
  exact ⟨rfl, u1, e2, u2, u3⟩
/-! many: both sides count the same -/
theorem ms_Wa_q {nx nx' mo e V V' : Int → Int → Int} {q l p : Int} (l3 : l < 3) (v : ∀ l', 0 ≤ l' → l' ≤ l → V p l' = V' p l') : ∀ a : Nat, (∀ i : Int, 0 ≤ i → i < a → nx p i = nx' p i ∧ mo p i = min 3 (e p i) ∧ 0 ≤ e p i) → ms_Wa nx mo V q l p a = ms_Wa nx' e V' q l p a := by
  intro a
  induction a with
  | zero => intro _; rfl
  | succ a ih =>
    intro h
    obtain ⟨h1, h2, h3⟩ := h a (by omega) (by omega)
    rw [ms_Wa_s, ms_Wa_s, ih (fun i i0 i1 => h i i0 (by omega)), h1]
    by_cases z : nx' p a = q ∧ e p a ≤ l
    · rw [if_pos z, if_pos ⟨z.1, by omega⟩, show l - mo p a = l - e p a by omega, v _ (by omega) (by omega)]
    · rw [if_neg z, if_neg (fun w => z ⟨w.1, by omega⟩)]
theorem ms_W_q {L P : Int} {nx nx' mo e : Int → Int → Int} (h : ∀ p a, 0 ≤ p → p < P → 0 ≤ a → a < L → nx p a = nx' p a ∧ mo p a = min 3 (e p a) ∧ 0 ≤ e p a) : ∀ (n : Nat) (q l : Int), 0 ≤ l → l < 3 → ms_W L P nx mo n q l = ms_W L P nx' e n q l := by
  intro n
  induction n with
  | zero => intro q l _ _; rfl
  | succ n ih =>
    intro q l l0 l3
    have B : ∀ p : Nat, (p : Int) ≤ P → ms_Wp L nx mo (ms_W L P nx mo n) q l p = ms_Wp L nx' e (ms_W L P nx' e n) q l p := by
      intro p
      induction p with
      | zero => intro _; rfl
      | succ p ihp =>
        intro hp
        unfold ms_Wp
        rw [ihp (by omega), ms_Wa_q l3 (fun l' a b => ih p l' a (by omega)) _ (fun i i0 i1 => h p i (by omega) (by omega) i0 (by omega))]
    show ms_Wp L nx mo _ q l P.toNat % 998244353 = ms_Wp L nx' e _ q l P.toNat % 998244353
    rcases Int.lt_or_le P 0 with z | z
    · rw [show P.toNat = 0 by omega]; rfl
    · rw [B _ (by omega)]
theorem ms_T_U {cT cU : Int → Int} {V V' : Int → Int → Int} {k : Int} {c : Nat} (k3 : k ≤ 3) (V0 : ∀ l, 0 ≤ l → l < 3 → V 0 l = 0) (hV : ∀ p l, 0 ≤ l → l < 3 → V p l = V' p l) (hc : ∀ s : Int, 0 ≤ s → s < c → cT (s + 1) = cU s) (c1 : ∀ s : Int, 0 ≤ s → s < c → 1 ≤ cU s) : ∀ s : Nat, s ≤ c → ms_T cT V k (3 * (s + 1)) = ms_U cU V' k (4 * s) := by
  have T : ∀ p : Nat, ms_T cT V k (3 * (p + 1)) = ms_T cT V k (3 * p) + (if 0 + cT p = k then V p 0 else 0) + (if 1 + cT p = k then V p 1 else 0) + (if 2 + cT p = k then V p 2 else 0) := fun p => by
    rw [show 3 * (p + 1) = 3 * p + 1 + 1 + 1 by omega]
    show ms_T cT V k (3 * p) + (if ((3 * p : Nat) : Int) % 3 + cT (((3 * p : Nat) : Int) / 3) = k then V (((3 * p : Nat) : Int) / 3) (((3 * p : Nat) : Int) % 3) else 0) + (if ((3 * p + 1 : Nat) : Int) % 3 + cT (((3 * p + 1 : Nat) : Int) / 3) = k then V (((3 * p + 1 : Nat) : Int) / 3) (((3 * p + 1 : Nat) : Int) % 3) else 0) + (if ((3 * p + 1 + 1 : Nat) : Int) % 3 + cT (((3 * p + 1 + 1 : Nat) : Int) / 3) = k then V (((3 * p + 1 + 1 : Nat) : Int) / 3) (((3 * p + 1 + 1 : Nat) : Int) % 3) else 0) = _
    rw [show ((3 * p : Nat) : Int) / 3 = p by omega, show ((3 * p : Nat) : Int) % 3 = 0 by omega, show ((3 * p + 1 : Nat) : Int) / 3 = p by omega, show ((3 * p + 1 : Nat) : Int) % 3 = 1 by omega, show ((3 * p + 1 + 1 : Nat) : Int) / 3 = p by omega, show ((3 * p + 1 + 1 : Nat) : Int) % 3 = 2 by omega]
  have U : ∀ s : Nat, ms_U cU V' k (4 * (s + 1)) = ms_U cU V' k (4 * s) + (if 0 + cU s = k then V' ((s : Int) + 1) 0 else 0) + (if 1 + cU s = k then V' ((s : Int) + 1) 1 else 0) + (if 2 + cU s = k then V' ((s : Int) + 1) 2 else 0) + (if 3 + cU s = k then V' ((s : Int) + 1) 3 else 0) := fun s => by
    rw [show 4 * (s + 1) = 4 * s + 1 + 1 + 1 + 1 by omega]
    show ms_U cU V' k (4 * s) + (if ((4 * s : Nat) : Int) % 4 + cU (((4 * s : Nat) : Int) / 4) = k then V' (((4 * s : Nat) : Int) / 4 + 1) (((4 * s : Nat) : Int) % 4) else 0) + (if ((4 * s + 1 : Nat) : Int) % 4 + cU (((4 * s + 1 : Nat) : Int) / 4) = k then V' (((4 * s + 1 : Nat) : Int) / 4 + 1) (((4 * s + 1 : Nat) : Int) % 4) else 0) + (if ((4 * s + 1 + 1 : Nat) : Int) % 4 + cU (((4 * s + 1 + 1 : Nat) : Int) / 4) = k then V' (((4 * s + 1 + 1 : Nat) : Int) / 4 + 1) (((4 * s + 1 + 1 : Nat) : Int) % 4) else 0) + (if ((4 * s + 1 + 1 + 1 : Nat) : Int) % 4 + cU (((4 * s + 1 + 1 + 1 : Nat) : Int) / 4) = k then V' (((4 * s + 1 + 1 + 1 : Nat) : Int) / 4 + 1) (((4 * s + 1 + 1 + 1 : Nat) : Int) % 4) else 0) = _
    rw [show ((4 * s : Nat) : Int) / 4 = s by omega, show ((4 * s : Nat) : Int) % 4 = 0 by omega, show ((4 * s + 1 : Nat) : Int) / 4 = s by omega, show ((4 * s + 1 : Nat) : Int) % 4 = 1 by omega, show ((4 * s + 1 + 1 : Nat) : Int) / 4 = s by omega, show ((4 * s + 1 + 1 : Nat) : Int) % 4 = 2 by omega, show ((4 * s + 1 + 1 + 1 : Nat) : Int) / 4 = s by omega, show ((4 * s + 1 + 1 + 1 : Nat) : Int) % 4 = 3 by omega]
  intro s
  induction s with
  | zero =>
    intro _
    rw [T 0]
    show (0 : Int) + _ + _ + _ = 0
    rw [show ((0 : Nat) : Int) = 0 from rfl, V0 0 (by omega) (by omega), V0 1 (by omega) (by omega), V0 2 (by omega) (by omega)]
    split <;> split <;> split <;> rfl
  | succ s ih =>
    intro hs
    have e := hc s (by omega) (by omega)
    have o := c1 s (by omega) (by omega)
    rw [T (s + 1), U s, ih (by omega), show ((s + 1 : Nat) : Int) = (s : Int) + 1 by omega, e, hV _ 0 (by omega) (by omega), hV _ 1 (by omega) (by omega), hV _ 2 (by omega) (by omega), if_neg (c := 3 + cU s = k) (by omega)]
    omega
theorem ms_many {h told ts cap : Int} {tb cl pr sz : Int → Int} {T : Int → Int → Int} {σ : ml_St} {set L P L' n x : Int} {l l' : Int → Int} {S nx mo nx' e : Int → Int → Int} {F : Nat → Int → Int} {c : Nat} (i : IC h told ts cap tb cl pr sz T σ) (C : ms_C h told (mt_mk h T sz) set L P l S nx mo) (M : ms_M h told (mt_mk h T sz) set L' l' F c nx') (E : ms_E h c L' (mt_mk h T sz) l' F e) (n1 : 1 ≤ n) (x3 : x ≤ 3) : ms_T (fun p => mt_cl h (S p) cl) (ms_W L P nx mo n.toNat) x (3 * P).toNat = ms_U (fun s => mt_cl h (F s.toNat) cl) (ms_W L' (c + 1) nx' e n.toNat) x (4 * c) := by
  have h2 := i.1.2.2.1
  have h5 := i.1.2.2.2.1
  have hc := i.2.2.1.2.2.2.1
  obtain ⟨u1, u2, u3, u4, u5⟩ := ms_u i C M
  subst u1
  subst u2
  obtain ⟨c1, c2, c3, c4, c5, c6, c7⟩ := C
  have key : ∀ p a, 0 ≤ p → p < (c : Int) + 1 → 0 ≤ a → a < L → nx p a = nx' p a ∧ mo p a = min 3 (e p a) ∧ 0 ≤ e p a := fun p a p0 p1 a0 a1 => by
    obtain ⟨e1, e2⟩ := E p a p0 p1 a0 a1
    obtain ⟨x1, x2, x3⟩ := u3 a a0 a1
    refine ⟨u5 p a p0 p1 a0 a1, ?_, e2⟩
    rw [c7 p a p0 p1 a0 a1, e1, ← x1]
    have wM : mt_M h (mq_w (S p)) := mt_eq_M (mq_w_e h5) (c6.2.2.1 p p0 p1)
    have we : mt_eq h (mq_w (S p)) (mq_w (ms_S h F p)) := fun y y0 y1 => by rw [mq_w_e h5 y y0 y1, mq_w_e h5 y y0 y1]; exact u4 p p0 p1 y y0 y1
    rw [(mt_both_p (b := mt_mk h T sz (l a)) (by omega) h5 wM (IC_w i x2 x3).2.2.1 we (by unfold mq_w; rw [if_neg (by omega), if_neg (by omega)])).2]
  have W := ms_W_q key n.toNat
  have z := ms_T_U (cT := fun p => mt_cl h (S p) cl) (cU := fun s => mt_cl h (F s.toNat) cl) (V := ms_W L ((c : Int) + 1) nx mo n.toNat) (V' := ms_W L ((c : Int) + 1) nx' e n.toNat) (k := x) (c := c) x3 (fun l l0 l1 => by
    obtain ⟨m, hm⟩ : ∃ m, n.toNat = m + 1 := ⟨n.toNat - 1, by omega⟩
    rw [hm]
    exact ms_W_0 (fun p a p0 p1 a0 a1 => (c6.2.2.2.2.1 p a p0 a0 a1 (Or.inl p1)).1)) (fun p l l0 l1 => W p l l0 l1) (fun s s0 s1 => by
    show mt_cl h (S (s + 1)) cl = mt_cl h (F s.toNat) cl
    have e4 := u4 (s + 1) (by omega) (by omega)
    rw [ms_S_p (by omega), show (s + 1 - 1).toNat = s.toNat by omega] at e4
    exact mt_cl_c (by omega) (c6.2.2.1 (s + 1) (by omega) (by omega)) hc e4) (fun s s0 s1 => mt_cl_1 (by omega)) c (Nat.le_refl c)
  rw [show (3 * ((c : Int) + 1)).toNat = 3 * (c + 1) by omega]
  exact z
