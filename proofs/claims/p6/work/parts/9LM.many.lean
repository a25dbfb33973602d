/-! many: both sides count the same -/
theorem ms_Wa_q {nx nx' mo e V V' : Int → Int → Int} {q l p : Int} (l3 : l < 3) (v : ∀ l', 0 ≤ l' → l' ≤ l → V p l' = V' p l') : ∀ a : Nat, (∀ i : Int, 0 ≤ i → i < a → nx p i = nx' p i ∧ mo p i = min 3 (e p i) ∧ 0 ≤ e p i) → ms_Wa nx mo V q l p a = ms_Wa nx' e V' q l p a := by
  intro a
  induction a with
  | zero => intro _; rfl
  | succ a ih =>
    intro h
    obtain ⟨h1, h2, h3⟩ := h a (by omega) (by omega)
    rw [ms_Wa_s, ms_Wa_s, ih (fun i i0 i1 => h i i0 (by omega)), h1]
    by_cases z : nx' p a = q ∧ e p a ≤ l
    · rw [if_pos z, if_pos ⟨z.1, by omega⟩, show l - mo p a = l - e p a by omega, v _ (by omega) (by omega)]
    · rw [if_neg z, if_neg (fun w => z ⟨w.1, by omega⟩)]
theorem ms_W_q {L P : Int} {nx nx' mo e : Int → Int → Int} (h : ∀ p a, 0 ≤ p → p < P → 0 ≤ a → a < L → nx p a = nx' p a ∧ mo p a = min 3 (e p a) ∧ 0 ≤ e p a) : ∀ (n : Nat) (q l : Int), 0 ≤ l → l < 3 → ms_W L P nx mo n q l = ms_W L P nx' e n q l := by
  intro n
  induction n with
  | zero => intro q l _ _; rfl
  | succ n ih =>
    intro q l l0 l3
    have B : ∀ p : Nat, (p : Int) ≤ P → ms_Wp L nx mo (ms_W L P nx mo n) q l p = ms_Wp L nx' e (ms_W L P nx' e n) q l p := by
      intro p
      induction p with
      | zero => intro _; rfl
      | succ p ihp =>
        intro hp
        unfold ms_Wp
        rw [ihp (by omega), ms_Wa_q l3 (fun l' a b => ih p l' a (by omega)) _ (fun i i0 i1 => h p i (by omega) (by omega) i0 (by omega))]
    show ms_Wp L nx mo _ q l P.toNat % 998244353 = ms_Wp L nx' e _ q l P.toNat % 998244353
    rcases Int.lt_or_le P 0 with z | z
    · rw [show P.toNat = 0 by omega]; rfl
    · rw [B _ (by omega)]
theorem ms_T_U {cT cU : Int → Int} {V V' : Int → Int → Int} {k : Int} {c : Nat} (k3 : k ≤ 3) (V0 : ∀ l, 0 ≤ l → l < 3 → V 0 l = 0) (hV : ∀ p l, 0 ≤ l → l < 3 → V p l = V' p l) (hc : ∀ s : Int, 0 ≤ s → s < c → cT (s + 1) = cU s) (c1 : ∀ s : Int, 0 ≤ s → s < c → 1 ≤ cU s) : ∀ s : Nat, s ≤ c → ms_T cT V k (3 * (s + 1)) = ms_U cU V' k (4 * s) := by
  have T : ∀ p : Nat, ms_T cT V k (3 * (p + 1)) = ms_T cT V k (3 * p) + (if 0 + cT p = k then V p 0 else 0) + (if 1 + cT p = k then V p 1 else 0) + (if 2 + cT p = k then V p 2 else 0) := fun p => by
    rw [show 3 * (p + 1) = 3 * p + 1 + 1 + 1 by omega]
    show ms_T cT V k (3 * p) + (if ((3 * p : Nat) : Int) % 3 + cT (((3 * p : Nat) : Int) / 3) = k then V (((3 * p : Nat) : Int) / 3) (((3 * p : Nat) : Int) % 3) else 0) + (if ((3 * p + 1 : Nat) : Int) % 3 + cT (((3 * p + 1 : Nat) : Int) / 3) = k then V (((3 * p + 1 : Nat) : Int) / 3) (((3 * p + 1 : Nat) : Int) % 3) else 0) + (if ((3 * p + 1 + 1 : Nat) : Int) % 3 + cT (((3 * p + 1 + 1 : Nat) : Int) / 3) = k then V (((3 * p + 1 + 1 : Nat) : Int) / 3) (((3 * p + 1 + 1 : Nat) : Int) % 3) else 0) = _
    rw [show ((3 * p : Nat) : Int) / 3 = p by omega, show ((3 * p : Nat) : Int) % 3 = 0 by omega, show ((3 * p + 1 : Nat) : Int) / 3 = p by omega, show ((3 * p + 1 : Nat) : Int) % 3 = 1 by omega, show ((3 * p + 1 + 1 : Nat) : Int) / 3 = p by omega, show ((3 * p + 1 + 1 : Nat) : Int) % 3 = 2 by omega]
  have U : ∀ s : Nat, ms_U cU V' k (4 * (s + 1)) = ms_U cU V' k (4 * s) + (if 0 + cU s = k then V' ((s : Int) + 1) 0 else 0) + (if 1 + cU s = k then V' ((s : Int) + 1) 1 else 0) + (if 2 + cU s = k then V' ((s : Int) + 1) 2 else 0) + (if 3 + cU s = k then V' ((s : Int) + 1) 3 else 0) := fun s => by
    rw [show 4 * (s + 1) = 4 * s + 1 + 1 + 1 + 1 by omega]
    show ms_U cU V' k (4 * s) + (if ((4 * s : Nat) : Int) % 4 + cU (((4 * s : Nat) : Int) / 4) = k then V' (((4 * s : Nat) : Int) / 4 + 1) (((4 * s : Nat) : Int) % 4) else 0) + (if ((4 * s + 1 : Nat) : Int) % 4 + cU (((4 * s + 1 : Nat) : Int) / 4) = k then V' (((4 * s + 1 : Nat) : Int) / 4 + 1) (((4 * s + 1 : Nat) : Int) % 4) else 0) + (if ((4 * s + 1 + 1 : Nat) : Int) % 4 + cU (((4 * s + 1 + 1 : Nat) : Int) / 4) = k then V' (((4 * s + 1 + 1 : Nat) : Int) / 4 + 1) (((4 * s + 1 + 1 : Nat) : Int) % 4) else 0) + (if ((4 * s + 1 + 1 + 1 : Nat) : Int) % 4 + cU (((4 * s + 1 + 1 + 1 : Nat) : Int) / 4) = k then V' (((4 * s + 1 + 1 + 1 : Nat) : Int) / 4 + 1) (((4 * s + 1 + 1 + 1 : Nat) : Int) % 4) else 0) = _
    rw [show ((4 * s : Nat) : Int) / 4 = s by omega, show ((4 * s : Nat) : Int) % 4 = 0 by omega, show ((4 * s + 1 : Nat) : Int) / 4 = s by omega, show ((4 * s + 1 : Nat) : Int) % 4 = 1 by omega, show ((4 * s + 1 + 1 : Nat) : Int) / 4 = s by omega, show ((4 * s + 1 + 1 : Nat) : Int) % 4 = 2 by omega, show ((4 * s + 1 + 1 + 1 : Nat) : Int) / 4 = s by omega, show ((4 * s + 1 + 1 + 1 : Nat) : Int) % 4 = 3 by omega]
  intro s
  induction s with
  | zero =>
    intro _
    rw [T 0]
    show (0 : Int) + _ + _ + _ = 0
    rw [show ((0 : Nat) : Int) = 0 from rfl, V0 0 (by omega) (by omega), V0 1 (by omega) (by omega), V0 2 (by omega) (by omega)]
    split <;> split <;> split <;> rfl
  | succ s ih =>
    intro hs
    have e := hc s (by omega) (by omega)
    have o := c1 s (by omega) (by omega)
    rw [T (s + 1), U s, ih (by omega), show ((s + 1 : Nat) : Int) = (s : Int) + 1 by omega, e, hV _ 0 (by omega) (by omega), hV _ 1 (by omega) (by omega), hV _ 2 (by omega) (by omega), if_neg (c := 3 + cU s = k) (by omega)]
    omega
theorem ms_many {h told ts cap : Int} {tb cl pr sz : Int → Int} {T : Int → Int → Int} {σ : ml_St} {set L P L' n x : Int} {l l' : Int → Int} {S nx mo nx' e : Int → Int → Int} {F : Nat → Int → Int} {c : Nat} (i : IC h told ts cap tb cl pr sz T σ) (C : ms_C h told (mt_mk h T sz) set L P l S nx mo) (M : ms_M h told (mt_mk h T sz) set L' l' F c nx') (E : ms_E h c L' (mt_mk h T sz) l' F e) (n1 : 1 ≤ n) (x3 : x ≤ 3) : ms_T (fun p => mt_cl h (S p) cl) (ms_W L P nx mo n.toNat) x (3 * P).toNat = ms_U (fun s => mt_cl h (F s.toNat) cl) (ms_W L' (c + 1) nx' e n.toNat) x (4 * c) := by
  have h2 := i.1.2.2.1
  have h5 := i.1.2.2.2.1
  have hc := i.2.2.1.2.2.2.1
  obtain ⟨u1, u2, u3, u4, u5⟩ := ms_u i C M
  subst u1
  subst u2
  obtain ⟨c1, c2, c3, c4, c5, c6, c7⟩ := C
  have key : ∀ p a, 0 ≤ p → p < (c : Int) + 1 → 0 ≤ a → a < L → nx p a = nx' p a ∧ mo p a = min 3 (e p a) ∧ 0 ≤ e p a := fun p a p0 p1 a0 a1 => by
    obtain ⟨e1, e2⟩ := E p a p0 p1 a0 a1
    obtain ⟨x1, x2, x3⟩ := u3 a a0 a1
    refine ⟨u5 p a p0 p1 a0 a1, ?_, e2⟩
    rw [c7 p a p0 p1 a0 a1, e1, ← x1]
    have wM : mt_M h (mq_w (S p)) := mt_eq_M (mq_w_e h5) (c6.2.2.1 p p0 p1)
    have we : mt_eq h (mq_w (S p)) (mq_w (ms_S h F p)) := fun y y0 y1 => by rw [mq_w_e h5 y y0 y1, mq_w_e h5 y y0 y1]; exact u4 p p0 p1 y y0 y1
    rw [(mt_both_p (b := mt_mk h T sz (l a)) (by omega) h5 wM (IC_w i x2 x3).2.2.1 we (by unfold mq_w; rw [if_neg (by omega), if_neg (by omega)])).2]
  have W := ms_W_q key n.toNat
  have z := ms_T_U (cT := fun p => mt_cl h (S p) cl) (cU := fun s => mt_cl h (F s.toNat) cl) (V := ms_W L ((c : Int) + 1) nx mo n.toNat) (V' := ms_W L ((c : Int) + 1) nx' e n.toNat) (k := x) (c := c) x3 (fun l l0 l1 => by
    obtain ⟨m, hm⟩ : ∃ m, n.toNat = m + 1 := ⟨n.toNat - 1, by omega⟩
    rw [hm]
    exact ms_W_0 (fun p a p0 p1 a0 a1 => (c6.2.2.2.2.1 p a p0 a0 a1 (Or.inl p1)).1)) (fun p l l0 l1 => W p l l0 l1) (fun s s0 s1 => by
    show mt_cl h (S (s + 1)) cl = mt_cl h (F s.toNat) cl
    have e4 := u4 (s + 1) (by omega) (by omega)
    rw [ms_S_p (by omega), show (s + 1 - 1).toNat = s.toNat by omega] at e4
    exact mt_cl_c (by omega) (c6.2.2.1 (s + 1) (by omega) (by omega)) hc e4) (fun s s0 s1 => mt_cl_1 (by omega)) c (Nat.le_refl c)
  rw [show (3 * ((c : Int) + 1)).toNat = 3 * (c + 1) by omega]
  exact z
