/-! the model: mend, exactly -/
theorem so_p_ok {h : Int} {r u : Nat → Int} {o : Nat} (h5 : h ≤ 5) : ∀ n : Nat, mt_ok h (so_p h r u o n) := by
  intro n
  induction n with
  | zero => exact mt_str_ok h5
  | succ n ih => exact mt_both_ok h5 ih.2.2.1
theorem s_isOne_x {Q : Int → ml_St → Prop} {h told ts cap x : Int} {tb cl pr sz : Int → Int} {T : Int → Int → Int} {τ0 σ0 : ml_St} {t : Int → Int} {s : Nat} (i : IM h told ts cap tb cl pr sz T σ0) (f0 : ∀ j, j < 215 → σ0 j = τ0 j) (n10 : s ≤ 10) (R : ∀ i : Nat, i < s → σ0 253 i = mn_r t i ∧ 0 ≤ mn_r t i ∧ mn_r t i + 2 ≤ h ∧ (t (2 * i) = 120 ∨ t (2 * i) = 117) ∧ σ0 252 i = if t (2 * i) = 120 then 1 else 0) (k : ∀ r σ, (r = 1 ∧ mn_one h (so_p h (mn_r t) (mn_u t x) 0 s) cl ∨ r = 0 ∧ ¬ mn_one h (so_p h (mn_r t) (mn_u t x) 0 s) cl) → IM h told ts cap tb cl pr sz T σ → (∀ j, j < 215 → σ j = τ0 j) → σ 252 = σ0 252 → σ 253 = σ0 253 → Q r σ) : f_X12_isOne σ0 s x Q := by
  have h2 := i.1.2.2.1
  have h5 := i.1.2.2.2.1
  have hc := i.2.2.1.2.2.2
  have FK : ∀ (c : Int) (σ σ' : ml_St), 16 ≤ c → mt_mf c σ σ' → (IM h told ts cap tb cl pr sz T σ ∧ (∀ j, j < 215 → σ j = τ0 j) ∧ σ 252 = σ0 252 ∧ σ 253 = σ0 253) → (IM h told ts cap tb cl pr sz T σ' ∧ (∀ j, j < 215 → σ' j = τ0 j) ∧ σ' 252 = σ0 252 ∧ σ' 253 = σ0 253) := fun c σ σ' c16 f g => ⟨IM_kq (mt_kq_mf c16 f) g.1, fun j hj => by rw [(mt_kq_mf c16 f).2.2.2 j hj, g.2.1 j hj], by rw [f.1 252 (by omega) (by omega) (by omega) (by omega) (by omega) (by omega) (by omega), g.2.2.1], by rw [f.1 253 (by omega) (by omega) (by omega) (by omega) (by omega) (by omega) (by omega), g.2.2.2]⟩
  have PM : ∀ n : Nat, n ≤ s → so_M h n (so_p h (mn_r t) (mn_u t x) 0 n) := fun n hn => so_p_M h2 h5 0 n (by omega) (fun j _ hj => ⟨(R j (by omega)).2.1, (R j (by omega)).2.2.1⟩)
  -- all signs stand
  have E : ∀ (σ : ml_St), (IM h told ts cap tb cl pr sz T σ ∧ (∀ j, j < 215 → σ j = τ0 j) ∧ σ 252 = σ0 252 ∧ σ 253 = σ0 253) → mt_mv h σ 20 (so_p h (mn_r t) (mn_u t x) 0 s) → f_X12_isOne_u77 Q σ := by
    intro σ g wv
    obtain ⟨hv, v0, v1⟩ := PM s (Nat.le_refl s)
    have ov := so_p_ok (r := mn_r t) (u := mn_u t x) (o := 0) h5 s
    generalize so_p h (mn_r t) (mn_u t x) 0 s = v at *
    have e0 : mt_plo h v cl 0 = w64 (v 20 + mt_cl h v cl) := rfl
    unfold f_X12_isOne_u77
    rw [wv.2.1]
    refine ⟨by omega, by omega, fun _ => s_closing h2 h5 ⟨by omega, by omega⟩ g.1.1.1 hv g.1.2.2.1.2.2.2 (fun e e0 e1 => (wv.1 e e0 e1).1) g.1.2.2.1.2.2.1 (fun σ2 f _ => ?_)⟩
    have g2 : IM h told ts cap tb cl pr sz T σ2 ∧ (∀ j, j < 215 → σ2 j = τ0 j) ∧ σ2 252 = σ0 252 ∧ σ2 253 = σ0 253 := ⟨IM_kq (mt_kq_234 f) g.1, fun j hj => by rw [f j (by omega), g.2.1 j hj], by rw [f 252 (by omega), g.2.2.1], by rw [f 253 (by omega), g.2.2.2]⟩
    refine ⟨fun _ => s_powers h2 h5 (by omega) (by omega) g2.1.1.1 hv (mt_mv_o (fun j j0 j1 => f j (by omega)) wv) g2.1.2.2.1.2.2.2 g2.1.2.2.1.2.2.1 (fun σ5 a b q p => ⟨2900, ?_⟩), fun z => k 0 σ2 (Or.inr ⟨rfl, fun o => z (by rw [← e0]; exact o 0 (by omega))⟩) g2.1 g2.2.1 g2.2.2.1 g2.2.2.2⟩
    have g5 : IM h told ts cap tb cl pr sz T σ5 ∧ (∀ j, j < 215 → σ5 j = τ0 j) ∧ σ5 252 = σ0 252 ∧ σ5 253 = σ0 253 := ⟨IM_kq (mq_f_kq q) g2.1, fun j hj => by rw [(mq_f_kq q).2.2.2 j hj, g2.2.1 j hj], by rw [q.1 252 (by omega) (by omega) (by omega) (by omega) (by omega) (by omega), g2.2.2.1], by rw [q.1 253 (by omega) (by omega) (by omega) (by omega) (by omega) (by omega), g2.2.2.2]⟩
    obtain ⟨p1, p2, p3, p4, p5, p6, p7, p8, -⟩ := p
    have L : ∀ (N : Nat) (j : Int), 1 ≤ j → j ≤ 2 * b - a + 2 → 2 * b - a + 2 - j < N → (∀ i : Nat, (i : Int) + 1 < j → mt_plo h v cl i = 1) → f_X12_isOne_u107 Q (f_X12_isOne_u126 Q) (f_X12_isOne_u134 Q) N σ5 j := by
      intro N
      induction N with
      | zero => intro j j0 j1 hN; omega
      | succ N ih =>
        intro j j0 j1 hN o
        unfold f_X12_isOne_u107
        rw [p5]
        refine fun _ => ⟨fun z => ?_, fun q => ⟨by omega, by omega, ?_⟩⟩
        · unfold f_X12_isOne_u134
          exact k 1 σ5 (Or.inl ⟨rfl, mn_one_n (by omega) h5 hv ov hc v0 (by omega) p1 p2 p8 (fun i hi => o i (by omega))⟩) g5.1 g5.2.1 g5.2.2.1 g5.2.2.2
        · have gg := p7 (j - 1).toNat (by omega)
          rw [show (((j - 1).toNat : Nat) : Int) + 1 = j by omega] at gg
          rw [gg]
          refine fun _ => ⟨fun z => ⟨mt_I (by omega) (by omega), fun y e => ?_⟩, fun z => ?_⟩
          · subst e
            refine ih (j + 1) (by omega) (by omega) (by omega) (fun i hi => ?_)
            by_cases w : i = (j - 1).toNat
            · rw [w]; exact z
            · exact o i (by omega)
          · unfold f_X12_isOne_u126
            exact k 0 σ5 (Or.inr ⟨rfl, fun c => z (c (j - 1).toNat (by omega))⟩) g5.1 g5.2.1 g5.2.2.1 g5.2.2.2
    exact L 2900 1 (by omega) (by omega) (by omega) (fun i hi => by omega)
  have L : ∀ (N : Nat) (j : Nat) (σ : ml_St), j ≤ s → s - j < N → (IM h told ts cap tb cl pr sz T σ ∧ (∀ j, j < 215 → σ j = τ0 j) ∧ σ 252 = σ0 252 ∧ σ 253 = σ0 253) → mt_mv h σ 20 (so_p h (mn_r t) (mn_u t x) 0 j) → f_X12_isOne_u8 Q (f_X12_isOne_u77 Q) N σ s x j := by
    intro N
    induction N with
    | zero => intro j σ j1 hN; omega
    | succ N ih =>
      intro j σ j1 hN g wv
      have U : ∀ s2, j < s → (if s2 = 0 then 1 else 0) = mn_u t x j → f_X12_isOne_u44 Q (f_X12_isOne_u8 Q (f_X12_isOne_u77 Q) N) σ s x j 21 s2 := fun s2 jn hu => by
        unfold f_X12_isOne_u44
        obtain ⟨r0, r1, r2, -⟩ := R j jn
        rw [g.2.2.2, r0]
        obtain ⟨hv, -, -⟩ := PM j (by omega)
        refine ⟨by omega, by omega, fun _ => s_sign h2 h5 ⟨by omega, by omega⟩ g.1.1.1 r1 r2 (fun σ2 p2 w2 => ?_)⟩
        rw [hu] at w2
        have g2 := FK 21 σ σ2 (by omega) p2 g
        have sM : mt_M h (mt_sgn h (mn_r t j) (mn_u t x j)) := mt_sgn_M h5 r1 r2
        refine s_lays h2 h5 ⟨by omega, by omega⟩ ⟨by omega, by omega⟩ ⟨by omega, by omega⟩ g2.1.1.1 hv sM (mt_mv_f h5 p2 (by omega) wv) w2 (by omega) (by omega) (fun σ3 p3 w3 => ?_)
        have g3 := FK 22 σ2 σ3 (by omega) p3 g2
        refine s_copies h2 h5 ⟨by omega, by omega⟩ ⟨by omega, by omega⟩ (by omega) g3.1.1.1 w3 (fun σ4 p4 w4 => ⟨mt_I (by omega) (by omega), fun y e => ?_⟩)
        have e : y = ((j + 1 : Nat) : Int) := by omega
        rw [e]
        refine ih (j + 1) σ4 (by omega) (by omega) (FK 20 σ3 σ4 (by omega) p4 g3) ?_
        have eq : so_p h (mn_r t) (mn_u t x) 0 (j + 1) = mt_both h (so_p h (mn_r t) (mn_u t x) 0 j) (mt_sgn h (mn_r t j) (mn_u t x j)) := by
          show mt_both h _ (mt_sgn h (mn_r t (0 + j)) (mn_u t x (0 + j))) = _
          rw [Nat.zero_add]
        rw [eq]; exact w4
      have U2 : ∀ s2, j < s → ((s2 = 1 ∧ t (2 * j) = 120) ∨ (s2 = 0 ∧ t (2 * j) = 117)) → f_X12_isOne_u31 Q (f_X12_isOne_u8 Q (f_X12_isOne_u77 Q) N) σ s x j 21 s2 := fun s2 jn hs2 => by
        unfold f_X12_isOne_u31
        refine s_has (fun b1 _ => ⟨fun z => U _ jn ?_, fun z => U _ jn ?_⟩) (fun b0 _ => ⟨fun z => U _ jn ?_, fun z => U _ jn ?_⟩) <;> unfold mn_u
        · rw [if_pos rfl, if_pos (by omega)]
        · rw [if_neg (by omega), if_neg (by omega)]
        · rw [if_pos rfl, if_pos (by omega)]
        · rw [if_neg (by omega), if_neg (by omega)]
      unfold f_X12_isOne_u8
      refine ⟨fun z => ?_, fun q => ⟨by omega, by omega, ?_⟩⟩
      · have : j = s := by omega
        rw [this] at wv
        exact E σ g wv
      · obtain ⟨-, -, -, r3, r4⟩ := R j (by omega)
        rw [g.2.2.1, r4]
        refine fun _ => ⟨fun z => U2 _ (by omega) ?_, fun z => U2 _ (by omega) ?_⟩
        · by_cases w : t (2 * j) = 120
          · rw [if_pos w] at z; exact absurd rfl z
          · exact Or.inr ⟨rfl, r3.resolve_left w⟩
        · by_cases w : t (2 * j) = 120
          · exact Or.inl ⟨rfl, w⟩
          · rw [if_neg w] at z; omega
  unfold f_X12_isOne f_X12_isOne_u0
  refine s_straight h2 h5 ⟨by omega, by omega⟩ i.1.1 (fun σ1 p1 w1 => ⟨12, ?_⟩)
  have g := L 12 0 σ1 (by omega) (by omega) (FK 20 σ0 σ1 (by omega) p1 ⟨i, f0, rfl, rfl⟩) w1
  exact g
def mb_sz (n : Nat) : Bool := mb_fc (mb_sw n) (fun k => decide (k ≤ 10) && (n == 0 || mb_sw (n &&& (n - 1)) + 1 == k))
theorem mb_sz_1 : ∀ a, a < 4 → ∀ b, b < 256 → mb_sz (256 * a + b) = true := by decide +kernel
theorem mb_sz_e {n : Nat} (h : n < 1024) : mb_sw n ≤ 10 ∧ (n ≠ 0 → mb_sw (n &&& (n - 1)) + 1 = mb_sw n) := by
  have := mb_sz_1 (n / 256) (by omega) (n % 256) (by omega)
  rw [show 256 * (n / 256) + n % 256 = n by omega] at this
  unfold mb_sz at this
  rw [mb_fc_e, Bool.and_eq_true, Bool.or_eq_true] at this
  refine ⟨of_decide_eq_true this.1, fun z => ?_⟩
  rcases this.2 with q | q
  · exact absurd (by simpa using q) z
  · simpa using q
theorem s_sizeOf_x {Q : Int → ml_St → Prop} {x : Nat} {σ : ml_St} (x1 : x < 1024) (k : Q (mb_sw x) σ) : f_X12_sizeOf σ x Q := by
  have z0 : mb_sw 0 = 0 := by decide +kernel
  have L : ∀ (N : Nat) (m : Nat) (s : Int), m < 1024 → m < N → 0 ≤ s → s + mb_sw m = mb_sw x → f_X12_sizeOf_u4 Q (f_X12_sizeOf_u20 Q) N σ s m := by
    intro N
    induction N with
    | zero => intro m s _ hN; omega
    | succ N ih =>
      intro m s m1 hN s0 hs
      have b := (mb_sz_e x1).1
      unfold f_X12_sizeOf_u4
      refine ⟨fun z => ?_, fun q => ⟨mt_I (by omega) (by omega), fun y2 e2 => ⟨mt_I (by omega) (by omega), fun y4 e4 => ?_⟩⟩⟩
      · unfold f_X12_sizeOf_u20
        have : m = 0 := by omega
        rw [this, z0] at hs
        rw [show s = (mb_sw x : Int) by omega]; exact k
      · obtain ⟨m', rfl⟩ : ∃ m', m = m' + 1 := ⟨m - 1, by omega⟩
        have c := (mb_sz_e m1).2 (by omega)
        rw [show m' + 1 - 1 = m' by omega] at c
        rw [show ((m' + 1 : Nat) : Int) - 1 = (m' : Int) by omega, mb_and (by omega) (by omega)] at e4
        have := Nat.and_le_right (n := m' + 1) (m := m')
        rw [e4, e2]
        exact ih _ _ (by omega) (by omega) (by omega) (by omega)
  unfold f_X12_sizeOf f_X12_sizeOf_u0
  exact ⟨x + 1, L (x + 1) x 0 x1 (by omega) (by omega) (by omega)⟩
theorem m_mend_x {Q : Int → ml_St → Prop} {h told ts cap w : Int} {tb cl pr sz : Int → Int} {T : Int → Int → Int} {τ : ml_St} (i : IM h told ts cap tb cl pr sz T τ) (k0 : ¬ (0 ≤ w ∧ w < told ∧ mt_pl (T w) (sz w).toNat ≠ 0 ∧ sz w ≤ 20) → Q (-1) τ) (k1 : 0 ≤ w → w < told → mt_pl (T w) (sz w).toNat ≠ 0 → sz w ≤ 20 → ∀ (s : Nat) b f σ, IM h told ts cap tb cl pr sz T σ → (∀ j, j < 215 → σ j = τ j) → sz w / 2 = s → mn_b (fun m => mn_one h (so_p h (mn_r (T w)) (mn_u (T w) m) 0 s) cl) (2 ^ s) b f → Q b σ) : f_X12_mend τ w Q := by
  have t16 := i.1.2.2.2.2.2
  have h2 := i.1.2.2.1
  have h5 := i.1.2.2.2.1
  unfold f_X12_mend f_X12_mend_u0
  unfold f_X12_mend_u27
  refine m_isWord i (fun w0 w1 _ => ⟨fun z => absurd z (by omega), fun _ => ?_⟩) (fun q _ => ⟨fun _ => k0 (fun y => q ⟨y.1, y.2.1⟩), fun z => absurd rfl z⟩)
  obtain ⟨g, e1, et⟩ := (i.2.2.2.2 w w0 w1).1
  have g1 := g.1
  have g2 := g.2.1
  refine s_isPlain (t := T w) w0 (by omega) (by omega) g2 e1 et (fun z _ => ⟨fun z => absurd z (by omega), fun _ => ⟨w0, by omega, ?_⟩⟩) (fun z _ => ⟨fun _ => k0 (fun y => y.2.2.1 z), fun z => absurd rfl z⟩)
  rw [e1]
  refine fun _ => ⟨fun s20 => ⟨w0, by omega, fun _ => ⟨by omega, ?_⟩⟩, fun z2 => k0 (fun y => z2 y.2.2.2)⟩
  have hall := mt_pl_all (t := T w) (sz w).toNat z
  have prs := mt_pairs (t := T w) (n := sz w) (h := h) (w := w) (by omega) (fun j j0 j1 => by have := hall j.toNat (by omega); rw [show ((j.toNat : Nat) : Int) = j by omega] at this; exact this) _ 0 0 1 (Int.le_refl 0) g.2.2.2 (by omega) (by omega)
  have prs' : ∀ k : Nat, 2 * (k : Int) < sz w → (T w (2 * k) = 120 ∨ T w (2 * k) = 117) ∧ 2 * (k : Int) + 1 < sz w ∧ 48 ≤ T w (2 * k + 1) ∧ T w (2 * k + 1) ≤ 57 ∧ T w (2 * k + 1) - 48 ≤ h - 2 := fun k hk => by
    have := prs k (by omega)
    rw [show (0 : Int) + 2 * k = 2 * k by omega] at this
    exact this
  have td : Int.tdiv (sz w) 2 = sz w / 2 := Int.tdiv_eq_ediv_of_nonneg (by omega)
  rw [td]
  obtain ⟨s, hs⟩ : ∃ s : Nat, sz w / 2 = s := ⟨(sz w / 2).toNat, by omega⟩
  have n10 : s ≤ 10 := by omega
  refine ⟨mt_I (by omega) (by omega), fun n en => ⟨12, ?_⟩⟩
  rw [en, hs]
  have kk := fun b f σ a c => k1 w0 w1 z s20 s b f σ a c hs
  clear k0 k1
  generalize hP : (fun m : Nat => mn_one h (so_p h (mn_r (T w)) (mn_u (T w) m) 0 s) cl) = P at kk
  have p2 : (2 : Nat) ^ s ≤ 2 ^ 10 := Nat.pow_le_pow_right (by omega) n10
  have es : b_shl 1 (s : Int) = ((2 ^ s : Nat) : Int) := mb_shl (by omega)
  have S : ∀ (N : Nat) (m : Nat) (b f : Int) (σ : ml_St), m ≤ 2 ^ s → 2 ^ s - m < N → ((b = -2 ∧ f = 11) ∨ (0 ≤ b ∧ b < m ∧ f = mb_sw b.toNat)) → mn_b P m b f → IM h told ts cap tb cl pr sz T σ → (∀ j, j < 215 → σ j = τ j) → (∀ i : Nat, i < s → σ 253 i = mn_r (T w) i ∧ σ 252 i = if T w (2 * i) = 120 then 1 else 0) → f_X12_mend_u110 Q (f_X12_mend_u153 Q) N σ s b m := by
    intro N
    induction N with
    | zero => intro m b f σ m1 hN; omega
    | succ N ih =>
      intro m b f σ m1 hN hb hB i' f' R
      have U : ∀ (b' f9 : Int) σ, ((b' = -2 ∧ f9 = 11) ∨ (0 ≤ b' ∧ b' < (m : Int) + 1 ∧ f9 = mb_sw b'.toNat)) → mn_b P (m + 1) b' f9 → m < 2 ^ s → IM h told ts cap tb cl pr sz T σ → (∀ j, j < 215 → σ j = τ j) → (∀ i : Nat, i < s → σ 253 i = mn_r (T w) i ∧ σ 252 i = if T w (2 * i) = 120 then 1 else 0) → f_X12_mend_u147 Q (f_X12_mend_u110 Q (f_X12_mend_u153 Q) N) σ s b' m := fun b' f9 σ hb hB mm i' f' R => by
        unfold f_X12_mend_u147
        refine ⟨mt_I (by omega) (by omega), fun y e => ?_⟩
        have e : y = ((m + 1 : Nat) : Int) := by omega
        rw [e]
        exact ih (m + 1) b' f9 σ (by omega) (by omega) (by omega) hB i' f' R
      have V : m < 2 ^ s → (mb_sw m : Int) < f → f_X12_mend_u134 Q (f_X12_mend_u110 Q (f_X12_mend_u153 Q) N) σ s b m := fun mm lt => by
        unfold f_X12_mend_u134
        refine s_isOne_x (t := T w) i' f' n10 (fun j hj => ?_) (fun r σ1 hr i1 f1 e252 e253 _ => ?_)
        · obtain ⟨p1, p2, p3, p4, p5⟩ := prs' j (by omega)
          refine ⟨(R j hj).1, by unfold mn_r; omega, by unfold mn_r; omega, p1, (R j hj).2⟩
        · have ePs : P m ↔ mn_one h (so_p h (mn_r (T w)) (mn_u (T w) m) 0 s) cl := by rw [← hP]
          rcases hr with ⟨r1, o⟩ | ⟨r1, o⟩
          · exact ⟨fun z => absurd z (by omega), fun _ => U m (mb_sw m) σ1 (Or.inr ⟨by omega, by omega, by rw [show ((m : Int)).toNat = m by omega]⟩) ⟨b, f, hB, Or.inl ⟨lt, ePs.2 o, rfl, rfl⟩⟩ mm i1 f1 (by rw [e252, e253]; exact R)⟩
          · exact ⟨fun _ => U b f σ1 (by omega) ⟨b, f, hB, Or.inr ⟨fun z => o (ePs.1 z.2), rfl, rfl⟩⟩ mm i1 f1 (by rw [e252, e253]; exact R), fun z => absurd r1 z⟩
      unfold f_X12_mend_u110
      rw [es]
      refine ⟨fun c => ?_, fun q => ⟨fun b0 => V (by omega) ?_, fun b0 => ?_⟩⟩
      · unfold f_X12_mend_u153
        have : m = 2 ^ s := by omega
        rw [this] at hB
        exact kk b f σ i' f' hB
      · have := (mb_sz_e (n := m) (by omega)).1
        omega
      · obtain ⟨c1, c2, c3⟩ := hb.resolve_left (fun z => by omega)
        rw [show b = ((b.toNat : Nat) : Int) by omega]
        refine s_sizeOf_x (by omega) (fun _ => s_sizeOf_x (by omega) (fun _ => ?_))
        rw [show ((b.toNat : Nat) : Int) = b by omega]
        exact ⟨fun z => U b f σ (by omega) ⟨b, f, hB, Or.inr ⟨fun y => by omega, rfl, rfl⟩⟩ (by omega) i' f' R, fun z => V (by omega) (by omega)⟩
  -- the signs are read
  have A : ∀ (N : Nat) (m : Nat) (σ : ml_St), m ≤ s → s - m < N → IM h told ts cap tb cl pr sz T σ → (∀ j, j < 215 → σ j = τ j) → (∀ i : Nat, i < m → σ 253 i = mn_r (T w) i ∧ σ 252 i = if T w (2 * i) = 120 then 1 else 0) → f_X12_mend_u40 Q (f_X12_mend_u104 Q) N σ w s m := by
    intro N
    induction N with
    | zero => intro m σ m1 hN; omega
    | succ N ih =>
      intro m σ m1 hN i' f' R
      unfold f_X12_mend_u40
      refine ⟨fun q => ?_, fun q => ⟨mt_I (by omega) (by omega), mt_I (by omega) (by omega), mt_I (by omega) (by omega), by omega, by omega, ?_⟩⟩
      · unfold f_X12_mend_u104
        have : m = s := by omega
        rw [this] at R
        have := S (2 ^ s + 1) 0 (-2) 11 σ (Nat.zero_le _) (by rw [Nat.sub_zero]; exact Nat.lt_succ_self _) (Or.inl ⟨rfl, rfl⟩) ⟨rfl, rfl⟩ i' f' R
        exact ⟨_, this⟩
      have et' := (i'.2.2.2.2 w w0 w1).1.2.2
      obtain ⟨p1, p2, p3, p4, p5⟩ := prs' m (by omega)
      have U : ∀ v, v = (if T w (2 * m) = 120 then 1 else 0) → f_X12_mend_u73 Q (f_X12_mend_u40 Q (f_X12_mend_u104 Q) N) σ w s m m v := fun v hv => by
        unfold f_X12_mend_u73
        refine ⟨by omega, by omega, fun σ1 s1 => ⟨mt_I (by omega) (by omega), mt_I (by omega) (by omega), mt_I (by omega) (by omega), mt_I (by omega) (by omega), by omega, by omega, ?_⟩⟩
        have e218 : σ1 218 (100 * w + 2 * (m : Int) + 1) = T w (2 * m + 1) := by
          rw [s1, ml_up_k (by omega), show 100 * w + 2 * (m : Int) + 1 = 100 * w + (2 * m + 1) by omega]
          exact et' _ (by omega) (by omega)
        rw [e218]
        refine fun _ => ⟨mt_I (by omega) (by omega), by omega, by omega, fun σ8 s8 => ⟨mt_I (by omega) (by omega), fun y e => ?_⟩⟩
        have e : y = ((m + 1 : Nat) : Int) := by omega
        rw [e]
        have f8 : ∀ j, j ≠ 252 → j ≠ 253 → σ8 j = σ j := fun j h1 h2 => by rw [s8, ml_up_k h2, s1, ml_up_k h1]
        refine ih (m + 1) σ8 (by omega) (by omega) (IM_kq (mt_kq_o (fun j hj => f8 j (by omega) (by omega)) (fun b _ _ => by rw [f8 215 (by omega) (by omega)])) i') (fun j hj => by rw [f8 j (by omega) (by omega), f' j hj]) (fun x x1 => ?_)
        have a253 : σ8 253 x = if x = m then T w (2 * m + 1) - 48 else σ 253 x := by
          rw [s8]
          by_cases z : x = m
          · rw [if_pos z, z, ml_up_same]
          · rw [if_neg z, ml_up_i (by omega), s1, ml_up_k (by omega)]
        have a252 : σ8 252 x = if x = m then v else σ 252 x := by
          rw [s8, ml_up_k (by omega), s1]
          by_cases z : x = m
          · rw [if_pos z, z, ml_up_same]
          · rw [if_neg z, ml_up_i (by omega)]
        rw [a253, a252]
        by_cases z : x = m
        · subst z
          rw [if_pos rfl, if_pos rfl]
          exact ⟨rfl, hv⟩
        · rw [if_neg z, if_neg z]; exact R x (by omega)
      rw [et' (2 * (m : Int)) (by omega) (by omega)]
      exact fun _ => ⟨fun z => U 0 (by rw [if_neg z]), fun z => U 1 (by rw [if_pos z])⟩
  exact A 12 0 τ (by omega) (by omega) i (fun _ _ => rfl) (fun x x1 => absurd x1 (by omega))
/-! mend: both sides answer the same -/
theorem ms_mend {h : Int} {t cl : Int → Int} {s : Nat} {b b2 f f2 : Int} (h2 : 2 ≤ h) (h5 : h ≤ 5) (s10 : s ≤ 10) (hc : mt_M h cl) (rr : ∀ j, j < s → 0 ≤ mn_r t j ∧ mn_r t j + 2 ≤ h) (x : mn_b (fun m => mn_one h (so_q h (mn_r t) (mn_u t m) s s) cl) (2 ^ s) b f) (y : mn_b (fun m => mn_one h (so_p h (mn_r t) (mn_u t m) 0 s) cl) (2 ^ s) b2 f2) : b = b2 := by
  refine (mn_b_u (2 ^ s) b f b2 f2 (fun m hm => ?_) x y).1
  have q := so_qp (u := mn_u t m) h2 h5 s (by omega) rr s (Nat.le_refl s)
  rw [show s - s = 0 by omega] at q
  exact mn_one_c (by omega) h5 (so_q_M (u := mn_u t m) h2 h5 s s (by omega) (Nat.le_refl s) rr).1 hc q
