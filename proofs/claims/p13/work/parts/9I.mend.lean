/-! the model: mend, back -/
theorem s_isOne {Q : Int → ml_St → Prop} {h told ts cap n x : Int} {tb cl pr sz : Int → Int} {T : Int → Int → Int} {τ0 σ0 : ml_St} (i : IM h told ts cap tb cl pr sz T σ0) (f0 : ∀ j, j < 215 → σ0 j = τ0 j) (n0 : 0 ≤ n) (n10 : n ≤ 10) (R : ∀ i, 0 ≤ i → i < n → 0 ≤ σ0 253 i ∧ σ0 253 i ≤ h - 2) (k : ∀ r σ, (r = 0 ∨ r = 1) → IM h told ts cap tb cl pr sz T σ → (∀ j, j < 215 → σ j = τ0 j) → σ 253 = σ0 253 → Q r σ) : f_X12_isOne σ0 n x Q := by
  have h2 := i.1.2.2.1
  have h5 := i.1.2.2.2.1
  have FK : ∀ (c : Int) (σ σ' : ml_St), 16 ≤ c → mt_mf c σ σ' → (IM h told ts cap tb cl pr sz T σ ∧ (∀ j, j < 215 → σ j = τ0 j) ∧ σ 253 = σ0 253) → (IM h told ts cap tb cl pr sz T σ' ∧ (∀ j, j < 215 → σ' j = τ0 j) ∧ σ' 253 = σ0 253) := fun c σ σ' c16 f g => ⟨IM_kq (mt_kq_mf c16 f) g.1, fun j hj => by rw [(mt_kq_mf c16 f).2.2.2 j hj, g.2.1 j hj], by rw [f.1 253 (by omega) (by omega) (by omega) (by omega) (by omega) (by omega) (by omega), g.2.2]⟩
  -- all signs stand
  have E : ∀ (v : Int → Int) (σ : ml_St), (IM h told ts cap tb cl pr sz T σ ∧ (∀ j, j < 215 → σ j = τ0 j) ∧ σ 253 = σ0 253) → mt_M h v → mt_mv h σ 20 v → f_X12_isOne_u77 Q σ := by
    intro v σ g hv wv
    unfold f_X12_isOne_u77
    refine ⟨by omega, by omega, fun _ => s_closing h2 h5 ⟨by omega, by omega⟩ g.1.1.1 hv g.1.2.2.1.2.2.2 (fun e e0 e1 => (wv.1 e e0 e1).1) g.1.2.2.1.2.2.1 (fun σ2 f _ => ?_)⟩
    have g2 : IM h told ts cap tb cl pr sz T σ2 ∧ (∀ j, j < 215 → σ2 j = τ0 j) ∧ σ2 253 = σ0 253 := ⟨IM_kq (mt_kq_234 f) g.1, fun j hj => by rw [f j (by omega), g.2.1 j hj], by rw [f 253 (by omega), g.2.2]⟩
    refine ⟨fun _ => s_powers h2 h5 (by omega) (by omega) g2.1.1.1 hv (mt_mv_o (fun j j0 j1 => f j (by omega)) wv) g2.1.2.2.1.2.2.2 g2.1.2.2.1.2.2.1 (fun σ5 a b q p => ⟨2900, ?_⟩), fun _ => k 0 σ2 (Or.inl rfl) g2.1 g2.2.1 g2.2.2⟩
    have g5 : IM h told ts cap tb cl pr sz T σ5 ∧ (∀ j, j < 215 → σ5 j = τ0 j) ∧ σ5 253 = σ0 253 := ⟨IM_kq (mq_f_kq q) g2.1, fun j hj => by rw [(mq_f_kq q).2.2.2 j hj, g2.2.1 j hj], by rw [q.1 253 (by omega) (by omega) (by omega) (by omega) (by omega) (by omega), g2.2.2]⟩
    obtain ⟨p1, p2, p3, p4, p5, -⟩ := p
    have L : ∀ (N : Nat) (j : Int), 1 ≤ j → j ≤ 2 * b - a + 2 → 2 * b - a + 2 - j < N → f_X12_isOne_u107 Q (f_X12_isOne_u126 Q) (f_X12_isOne_u134 Q) N σ5 j := by
      intro N
      induction N with
      | zero => intro j j0 j1 hN; omega
      | succ N ih =>
        intro j j0 j1 hN
        unfold f_X12_isOne_u107
        rw [p5]
        refine fun _ => ⟨fun _ => ?_, fun q => ⟨by omega, by omega, fun _ => ⟨fun _ => ⟨mt_I (by omega) (by omega), fun y e => ?_⟩, fun _ => ?_⟩⟩⟩
        · unfold f_X12_isOne_u134; exact k 1 σ5 (Or.inr rfl) g5.1 g5.2.1 g5.2.2
        · subst e; exact ih (j + 1) (by omega) (by omega) (by omega)
        · unfold f_X12_isOne_u126; exact k 0 σ5 (Or.inl rfl) g5.1 g5.2.1 g5.2.2
    exact L 2900 1 (by omega) (by omega) (by omega)
  have L : ∀ (N : Nat) (j : Int) (v : Int → Int) (σ : ml_St), 0 ≤ j → j ≤ n → n - j < N → (IM h told ts cap tb cl pr sz T σ ∧ (∀ j, j < 215 → σ j = τ0 j) ∧ σ 253 = σ0 253) → mt_M h v → mt_mv h σ 20 v → f_X12_isOne_u8 Q (f_X12_isOne_u77 Q) N σ n x j := by
    intro N
    induction N with
    | zero => intro j v σ j0 j1 hN; omega
    | succ N ih =>
      intro j v σ j0 j1 hN g hv wv
      have U : ∀ s2, j < n → f_X12_isOne_u44 Q (f_X12_isOne_u8 Q (f_X12_isOne_u77 Q) N) σ n x j 21 s2 := fun s2 jn => by
        unfold f_X12_isOne_u44
        rw [g.2.2]
        have r := R j j0 jn
        refine ⟨j0, by omega, fun _ => s_sign h2 h5 ⟨by omega, by omega⟩ g.1.1.1 r.1 (by omega) (fun σ2 p2 w2 => ?_)⟩
        have g2 := FK 21 σ σ2 (by omega) p2 g
        have sM : mt_M h (mt_sgn h (σ0 253 j) (if s2 = 0 then 1 else 0)) := mt_sgn_M h5 r.1 (by omega)
        refine s_lays h2 h5 ⟨by omega, by omega⟩ ⟨by omega, by omega⟩ ⟨by omega, by omega⟩ g2.1.1.1 hv sM (mt_mv_f h5 p2 (by omega) wv) w2 (by omega) (by omega) (fun σ3 p3 w3 => ?_)
        have g3 := FK 22 σ2 σ3 (by omega) p3 g2
        refine s_copies h2 h5 ⟨by omega, by omega⟩ ⟨by omega, by omega⟩ (by omega) g3.1.1.1 w3 (fun σ4 p4 w4 => ⟨mt_I (by omega) (by omega), fun y e => ?_⟩)
        subst e
        exact ih (j + 1) _ σ4 (by omega) (by omega) (by omega) (FK 20 σ3 σ4 (by omega) p4 g3) (mt_both_M h5 hv sM) w4
      have U2 : ∀ s2, j < n → f_X12_isOne_u31 Q (f_X12_isOne_u8 Q (f_X12_isOne_u77 Q) N) σ n x j 21 s2 := fun s2 jn => by
        unfold f_X12_isOne_u31
        exact s_has (fun _ _ => ⟨fun _ => U _ jn, fun _ => U _ jn⟩) (fun _ _ => ⟨fun _ => U _ jn, fun _ => U _ jn⟩)
      unfold f_X12_isOne_u8
      exact ⟨fun _ => E v σ g hv wv, fun q => ⟨j0, by omega, fun _ => ⟨fun _ => U2 _ (by omega), fun _ => U2 _ (by omega)⟩⟩⟩
  unfold f_X12_isOne f_X12_isOne_u0
  refine s_straight h2 h5 ⟨by omega, by omega⟩ i.1.1 (fun σ1 p1 w1 => ⟨11, ?_⟩)
  exact L 11 0 _ σ1 (by omega) n0 (by omega) (FK 20 σ0 σ1 (by omega) p1 ⟨i, f0, rfl⟩) (mt_str_M h5) w1
theorem s_sizeOf {Q : Int → ml_St → Prop} {x : Int} {σ : ml_St} (x0 : 0 ≤ x) (x1 : x < 2000) (k : ∀ r, I32 r → Q r σ) : f_X12_sizeOf σ x Q := by
  have L : ∀ (N : Nat) (m : Nat) (s : Int), m < 2000 → m < N → 0 ≤ s → s + m ≤ 4000 → f_X12_sizeOf_u4 Q (f_X12_sizeOf_u20 Q) N σ s m := by
    intro N
    induction N with
    | zero => intro m s _ hN; omega
    | succ N ih =>
      intro m s m1 hN s0 s1
      unfold f_X12_sizeOf_u4
      refine ⟨fun _ => ?_, fun q => ⟨mt_I (by omega) (by omega), fun y2 e2 => ⟨mt_I (by omega) (by omega), fun y4 e4 => ?_⟩⟩⟩
      · unfold f_X12_sizeOf_u20; exact k s (mt_I (by omega) (by omega))
      · obtain ⟨m', rfl⟩ : ∃ m', m = m' + 1 := ⟨m - 1, by omega⟩
        rw [show ((m' + 1 : Nat) : Int) - 1 = (m' : Int) by omega, mb_and (by omega) (by omega)] at e4
        have := Nat.and_le_right (n := m' + 1) (m := m')
        subst e4; subst e2
        exact ih _ _ (by omega) (by omega) (by omega) (by omega)
  unfold f_X12_sizeOf f_X12_sizeOf_u0
  have := L (x.toNat + 1) x.toNat 0 (by omega) (by omega) (by omega) (by omega)
  rw [show ((x.toNat : Nat) : Int) = x by omega] at this
  exact ⟨_, this⟩
theorem m_mend {Q : Int → ml_St → Prop} {h told ts cap w : Int} {tb cl pr sz : Int → Int} {T : Int → Int → Int} {τ : ml_St} (i : IM h told ts cap tb cl pr sz T τ) (k : ∀ r σ, IM h told ts cap tb cl pr sz T σ → (∀ j, j < 215 → σ j = τ j) → Q r σ) : f_X12_mend τ w Q := by
  have t16 := i.1.2.2.2.2.2
  have h2 := i.1.2.2.1
  have h5 := i.1.2.2.2.1
  have no : ∀ r, Q r τ := fun r => k r τ i (fun _ _ => rfl)
  unfold f_X12_mend f_X12_mend_u0
  unfold f_X12_mend_u27
  refine m_isWord i (fun w0 w1 _ => ⟨fun z => absurd z (by omega), fun _ => ?_⟩) (fun q _ => ⟨fun _ => no _, fun z => absurd rfl z⟩)
  obtain ⟨g, e1, et⟩ := (i.2.2.2.2 w w0 w1).1
  have g1 := g.1
  have g2 := g.2.1
  refine s_isPlain (t := T w) w0 (by omega) (by omega) g2 e1 et (fun z _ => ⟨fun z => absurd z (by omega), fun _ => ⟨w0, by omega, ?_⟩⟩) (fun _ _ => ⟨fun _ => no _, fun z => absurd rfl z⟩)
  rw [e1]
  refine fun _ => ⟨fun s20 => ⟨w0, by omega, fun _ => ⟨by omega, ?_⟩⟩, fun _ => no _⟩
  have hall := mt_pl_all (t := T w) (sz w).toNat z
  have prs := mt_pairs (t := T w) (n := sz w) (h := h) (w := w) (by omega) (fun j j0 j1 => by have := hall j.toNat (by omega); rw [show ((j.toNat : Nat) : Int) = j by omega] at this; exact this) _ 0 0 1 (Int.le_refl 0) g.2.2.2 (by omega) (by omega)
  have prs' : ∀ k : Nat, 2 * (k : Int) < sz w → (T w (2 * k) = 120 ∨ T w (2 * k) = 117) ∧ 2 * (k : Int) + 1 < sz w ∧ 48 ≤ T w (2 * k + 1) ∧ T w (2 * k + 1) ≤ 57 ∧ T w (2 * k + 1) - 48 ≤ h - 2 := fun k hk => by
    have := prs k (by omega)
    rw [show (0 : Int) + 2 * k = 2 * k by omega] at this
    exact this
  have td : Int.tdiv (sz w) 2 = sz w / 2 := Int.tdiv_eq_ediv_of_nonneg (by omega)
  rw [td]
  refine ⟨mt_I (by omega) (by omega), fun n en => ⟨12, ?_⟩⟩
  have n10 : n ≤ 10 := by omega
  have n0 : 0 ≤ n := by omega
  -- the sets
  have pb : 0 < 2 ^ n.toNat ∧ 2 ^ n.toNat ≤ 1024 := ⟨Nat.pow_pos (by omega), by
    have := Nat.pow_le_pow_right (show 0 < 2 by omega) (show n.toNat ≤ 10 by omega)
    omega⟩
  have es := mb_shl (r := n.toNat) (by omega)
  rw [show ((n.toNat : Nat) : Int) = n by omega] at es
  have S : ∀ (N : Nat) (m : Nat) (b : Int) (σ : ml_St), m ≤ 2 ^ n.toNat → 2 ^ n.toNat - m < N → b < m → IM h told ts cap tb cl pr sz T σ → (∀ j, j < 215 → σ j = τ j) → (∀ i, 0 ≤ i → i < n → 0 ≤ σ 253 i ∧ σ 253 i ≤ h - 2) → f_X12_mend_u110 Q (f_X12_mend_u153 Q) N σ n b m := by
    intro N
    induction N with
    | zero => intro m b σ m1 hN; omega
    | succ N ih =>
      intro m b σ m1 hN bm i' f' R
      have U : ∀ b' σ, b' < (m : Int) + 1 → m < 2 ^ n.toNat → IM h told ts cap tb cl pr sz T σ → (∀ j, j < 215 → σ j = τ j) → (∀ i, 0 ≤ i → i < n → 0 ≤ σ 253 i ∧ σ 253 i ≤ h - 2) → f_X12_mend_u147 Q (f_X12_mend_u110 Q (f_X12_mend_u153 Q) N) σ n b' m := fun b' σ hb mm i' f' R => by
        unfold f_X12_mend_u147
        refine ⟨mt_I (by omega) (by omega), fun y e => ?_⟩
        have e : y = ((m + 1 : Nat) : Int) := by omega
        subst e
        exact ih (m + 1) b' σ (by omega) (by omega) (by omega) i' f' R
      have V : m < 2 ^ n.toNat → f_X12_mend_u134 Q (f_X12_mend_u110 Q (f_X12_mend_u153 Q) N) σ n b m := fun mm => by
        unfold f_X12_mend_u134
        refine s_isOne i' f' n0 n10 R (fun r σ1 _ i1 f1 e1 _ => ⟨fun _ => U b σ1 (by omega) mm i1 f1 (by rw [e1]; exact R), fun _ => U m σ1 (by omega) mm i1 f1 (by rw [e1]; exact R)⟩)
      unfold f_X12_mend_u110
      rw [es]
      refine ⟨fun _ => ?_, fun q => ⟨fun _ => V (by omega), fun b0 => s_sizeOf (by omega) (by omega) (fun r3 _ _ => s_sizeOf (by omega) (by omega) (fun r4 _ _ => ⟨fun _ => U b σ (by omega) (by omega) i' f' R, fun _ => V (by omega)⟩))⟩⟩
      unfold f_X12_mend_u153
      exact k b σ i' f'
  -- the signs are read
  have A : ∀ (N : Nat) (m : Nat) (σ : ml_St), (m : Int) ≤ n → n - m < N → IM h told ts cap tb cl pr sz T σ → (∀ j, j < 215 → σ j = τ j) → (∀ i : Int, 0 ≤ i → i < m → 0 ≤ σ 253 i ∧ σ 253 i ≤ h - 2) → f_X12_mend_u40 Q (f_X12_mend_u104 Q) N σ w n m := by
    intro N
    induction N with
    | zero => intro m σ m1 hN; omega
    | succ N ih =>
      intro m σ m1 hN i' f' R
      unfold f_X12_mend_u40
      refine ⟨fun q => ?_, fun q => ⟨mt_I (by omega) (by omega), mt_I (by omega) (by omega), mt_I (by omega) (by omega), by omega, by omega, ?_⟩⟩
      · unfold f_X12_mend_u104
        have : (m : Int) = n := by omega
        rw [this] at R
        have := S (2 ^ n.toNat + 1) 0 (-2) σ (by omega) (by omega) (by omega) i' f' R
        exact ⟨_, this⟩
      have U : ∀ v, f_X12_mend_u73 Q (f_X12_mend_u40 Q (f_X12_mend_u104 Q) N) σ w n m m v := fun v => by
        unfold f_X12_mend_u73
        obtain ⟨p1, p2, p3, p4, p5⟩ := prs' m (by omega)
        refine ⟨by omega, by omega, fun σ1 s1 => ⟨mt_I (by omega) (by omega), mt_I (by omega) (by omega), mt_I (by omega) (by omega), mt_I (by omega) (by omega), by omega, by omega, ?_⟩⟩
        have et' := (i'.2.2.2.2 w w0 w1).1.2.2
        have e218 : σ1 218 (100 * w + 2 * (m : Int) + 1) = T w (2 * m + 1) := by
          rw [s1, ml_up_k (by omega), show 100 * w + 2 * (m : Int) + 1 = 100 * w + (2 * m + 1) by omega]
          exact et' _ (by omega) (by omega)
        rw [e218]
        refine fun _ => ⟨mt_I (by omega) (by omega), by omega, by omega, fun σ8 s8 => ⟨mt_I (by omega) (by omega), fun y e => ?_⟩⟩
        have e : y = ((m + 1 : Nat) : Int) := by omega
        subst e
        have f8 : ∀ j, j ≠ 252 → j ≠ 253 → σ8 j = σ j := fun j h1 h2 => by rw [s8, ml_up_k h2, s1, ml_up_k h1]
        refine ih (m + 1) σ8 (by omega) (by omega) (IM_kq (mt_kq_o (fun j hj => f8 j (by omega) (by omega)) (fun b _ _ => by rw [f8 215 (by omega) (by omega)])) i') (fun j hj => by rw [f8 j (by omega) (by omega), f' j hj]) (fun x x0 x1 => ?_)
        rw [s8]
        by_cases z : x = m
        · rw [z, ml_up_same]; omega
        · rw [ml_up_i z, s1, ml_up_k (by omega)]; exact R x x0 (by omega)
      exact fun _ => ⟨fun _ => U _, fun _ => U _⟩
  have := A 12 0 τ (by omega) (by omega) i (fun _ _ => rfl) (fun x x0 x1 => absurd x1 (by omega))
  exact this
theorem s_numberAt {Q : Int → ml_St → Prop} {x : Int} {σ : ml_St} (x0 : 0 ≤ x) (x1 : x < 40) (k : ∀ r, Q r σ) : f_X12_numberAt σ x Q := by
  have L : ∀ (N : Nat) (j y : Int), 0 ≤ j → j ≤ 4 → 4 - j < N → f_X12_numberAt_u4 Q (f_X12_numberAt_u35 Q) N σ x y j := by
    intro N
    induction N with
    | zero => intro j y j0 j1 hN; omega
    | succ N ih =>
      intro j y j0 j1 hN
      unfold f_X12_numberAt_u4
      refine ⟨fun _ => ?_, fun q => ⟨mt_I (by omega) (by omega), mt_I (by omega) (by omega), by omega, by omega, fun _ y5 _ => ⟨mt_I (by omega) (by omega), fun y6 e => ?_⟩⟩⟩
      · unfold f_X12_numberAt_u35; exact k y
      · subst e; exact ih (j + 1) y5 (by omega) (by omega) (by omega)
  unfold f_X12_numberAt f_X12_numberAt_u0
  exact ⟨5, L 5 0 0 (by omega) (by omega) (by omega)⟩
theorem m_back {Q : Int → ml_St → Prop} {h told ts cap n : Int} {tb cl pr sz : Int → Int} {T : Int → Int → Int} {τ : ml_St} (i : IM h told ts cap tb cl pr sz T τ) (k0 : ¬ (1 ≤ n ∧ n ≤ 8 ∧ 4 * n ≤ ts) → Q (-1) τ) (k1 : 1 ≤ n → n ≤ 8 → 4 * n ≤ ts → ∀ r σ, IM h told 0 cap tb cl pr sz T σ → (∀ j, j < 215 → σ j = τ j) → Q r σ) : f_X12_back τ n Q := by
  have t16 := i.1.2.2.2.2.2
  have t0 := i.1.2.2.2.2.1
  have h2 := i.1.2.2.1
  have h5 := i.1.2.2.2.1
  unfold f_X12_back f_X12_back_u0
  unfold f_X12_back_u22
  refine s_lies (fun n0 n1 _ => ⟨fun z => absurd z (by omega), fun _ => ⟨mt_I (by omega) (by omega), ?_⟩⟩) (fun q _ => ⟨fun _ => k0 (fun z => q ⟨z.1, z.2.1⟩), fun z => absurd rfl z⟩)
  rw [i.2.1.1]
  refine fun _ => ⟨fun q σ6 s6 => ⟨18, ?_⟩, fun q => k0 (fun z => q z.2.2)⟩
  have KK := k1 n0 n1 q
  have L : ∀ (N : Nat) (w y : Int) (σ : ml_St), 0 ≤ w → w ≤ told → told - w < N → IM h told 0 cap tb cl pr sz T σ → (∀ j, j < 215 → σ j = τ j) → f_X12_back_u33 Q (f_X12_back_u153 Q) N σ n y w := by
    intro N
    induction N with
    | zero => intro w y σ w0 w1 hN; omega
    | succ N ih =>
      intro w y σ w0 w1 hN i' f'
      have U : ∀ y σ, w < told → IM h told 0 cap tb cl pr sz T σ → (∀ j, j < 215 → σ j = τ j) → f_X12_back_u147 Q (f_X12_back_u33 Q (f_X12_back_u153 Q) N) σ n y w := fun y σ wt i' f' => by
        unfold f_X12_back_u147
        refine ⟨mt_I (by omega) (by omega), fun y1 e => ?_⟩
        subst e
        exact ih (w + 1) y σ (by omega) (by omega) (by omega) i' f'
      unfold f_X12_back_u33
      rw [i'.1.2.1]
      refine fun _ => ⟨fun _ => ?_, fun q2 => ?_⟩
      · unfold f_X12_back_u153; exact KK y σ i' f'
      have wt : w < told := by omega
      obtain ⟨c1, c2, c3, c4⟩ := IM_cv i' w0 wt
      have nn := (i'.2.2.2.2 w w0 wt).2.1
      refine s_isTooLong12 w0 (by omega) nn.1 nn.2 c3 c4 (fun big _ => ⟨fun z => absurd z (by omega), fun _ => U y σ wt i' f'⟩) (fun sml _ => ⟨fun _ => ?_, fun z => absurd rfl z⟩)
      have md : mt_md told (mt_mk h T sz) w := ⟨w0, wt, (mt_cv_23 c1).2 (by omega)⟩
      obtain ⟨g1, g2, g3, g4, g5⟩ := IM_w i' md
      refine s_copies h2 h5 ⟨w0, by omega⟩ ⟨by omega, by omega⟩ (by omega) i'.1.1 g1 (fun σ5 p5 w5 => ⟨10, ?_⟩)
      have I : ∀ (M : Nat) (j b : Int) (v : Int → Int) (σ : ml_St), 0 ≤ j → j ≤ n → n - j < M → IM h told 0 cap tb cl pr sz T σ → (∀ j, j < 215 → σ j = τ j) → mt_M h v → mt_mv h σ 60 v → f_X12_back_u65 Q (f_X12_back_u132 Q (f_X12_back_u33 Q (f_X12_back_u153 Q) N)) M σ n y w b j := by
        intro M
        induction M with
        | zero => intro j b v σ j0 j1 hM; omega
        | succ M ihj =>
          intro j b v σ j0 j1 hM i' f' hv wv
          have V : ∀ b' σ, j < n → IM h told 0 cap tb cl pr sz T σ → (∀ j, j < 215 → σ j = τ j) → mt_mv h σ 60 v → f_X12_back_u107 Q (f_X12_back_u65 Q (f_X12_back_u132 Q (f_X12_back_u33 Q (f_X12_back_u153 Q) N)) M) σ n y w j b' := fun b' σ jn i' f' wv => by
            unfold f_X12_back_u107
            obtain ⟨g1, g2, g3, g4, g5⟩ := IM_w i' md
            refine s_lays h2 h5 ⟨by omega, by omega⟩ ⟨w0, by omega⟩ ⟨by omega, by omega⟩ i'.1.1 hv g2 wv g1 (by omega) (by omega) (fun σ1 p1 w1 => ?_)
            have kq1 := mt_kq_mf (c := 62) (by omega) p1
            have i1 := IM_kq kq1 i'
            refine s_copies h2 h5 ⟨by omega, by omega⟩ ⟨by omega, by omega⟩ (by omega) i1.1.1 w1 (fun σ2 p2 w2 => ⟨mt_I (by omega) (by omega), fun y3 e => ?_⟩)
            have kq2 := mt_kq_mf (c := 60) (by omega) p2
            subst e
            exact ihj (j + 1) b' _ σ2 (by omega) (by omega) (by omega) (IM_kq kq2 i1) (fun x hx => by rw [kq2.2.2.2 x hx, kq1.2.2.2 x hx, f' x hx]) (mt_both_M h5 hv g2) w2
          unfold f_X12_back_u65
          unfold f_X12_back_u106
          refine ⟨fun _ => ?_, fun q3 => ⟨fun _ => V _ σ (by omega) i' f' wv, fun _ => ⟨by omega, by omega, fun _ => s_closing h2 h5 ⟨by omega, by omega⟩ i'.1.1 hv i'.2.2.1.2.2.2 (fun e e0 e1 => (wv.1 e e0 e1).1) i'.2.2.1.2.2.1 (fun σ4 f4 _ => s_numberAt j0 (by omega) (fun r _ => ?_))⟩⟩⟩
          · unfold f_X12_back_u132 f_X12_back_u145
            exact ⟨fun _ y1 _ => U y1 σ wt i' f', fun _ y1 _ => U y1 σ wt i' f'⟩
          · have i4 := IM_kq (mt_kq_234 f4) i'
            have f4' : ∀ j, j < 215 → σ4 j = τ j := fun x hx => by rw [f4 x (by omega), f' x hx]
            have w4 := mt_mv_o (fun x x0 x1 => f4 x (by omega)) wv
            exact ⟨fun _ => V _ σ4 (by omega) i4 f4' w4, fun _ => V _ σ4 (by omega) i4 f4' w4⟩
      have kq5 := mt_kq_mf (c := 60) (by omega) p5
      exact I 10 0 1 _ σ5 (by omega) (by omega) (by omega) (IM_kq kq5 i') (fun x hx => by rw [kq5.2.2.2 x hx, f' x hx]) g2 w5
  have i6 : IM h told 0 cap tb cl pr sz T σ6 := IM_B0 (fun j hj => by rw [s6, ml_up_k hj]) (fun x hx => by rw [s6, ml_up_i hx]) (by rw [s6, ml_up_same]) i
  exact L 18 0 0 σ6 (by omega) t0 (by omega) i6 (fun j hj => by rw [s6, ml_up_k (by omega)])
