/-! the model: walk -/
theorem mq_iv_2 {v : Int} (v0 : 0 ≤ v) : Int.tdiv (mq_iv v) 2 = v / 2 ∧ (Int.tmod (mq_iv v) 2 = 1 ↔ v % 2 = 0) := by
  have r : 0 ≤ mq_iv v := by unfold mq_iv; omega
  rw [Int.tdiv_eq_ediv_of_nonneg r, Int.tmod_eq_emod_of_nonneg r]
  unfold mq_iv
  omega
theorem s_follow12 {Q : Int → ml_St → Prop} {w x len h : Int} {val : Int → Int} {σ : ml_St} (h2 : 2 ≤ h) (h5 : h ≤ 5) (eh : σ 215 2 = h) (w0 : 0 ≤ w) (w1 : w < 16) (v : mw_v h val) (l0 : 0 ≤ len) (l1 : len ≤ 2000) (ev : ∀ j, 0 ≤ j → j < len → σ 254 (2000 * w + j) = mq_iv (val j)) : ∀ (d : Nat) (s : Int × Int × Int) (c : Int), d ≤ 20000 → mw_e val len x d s c → mw_s h s → 0 ≤ c → c ≤ 20000 - d → Q (mw val len x h d s c) σ → f_X12_walk_u120 Q (f_X12_walk_u175 Q) (f_X12_walk_u242 Q) (d + 1) σ w x len s.2.2 s.2.1 s.1 c := by
  intro d
  induction d with
  | zero =>
    intro s c _ he hs c0 c1 k
    have KE : f_X12_walk_u242 Q σ x s.2.2 s.2.1 := by
      have k : Q (mw_fin x h s) σ := k
      unfold mw_fin at k
      unfold f_X12_walk_u242 f_X12_walk_u268
      rw [eh]
      refine ⟨fun z => ?_, fun z => ⟨fun y => ?_, fun y _ => ⟨mt_I (by have := hs.1; omega) (by have := hs.2.1; omega), ?_⟩⟩⟩
      · rw [if_neg z] at k; exact k
      · rw [if_pos z, if_pos y] at k; exact k
      · rw [if_pos z, if_neg y] at k; rw [Int.add_comm]; exact k
    have he : s.1 < 0 ∨ len ≤ s.1 := he
    unfold f_X12_walk_u120
    exact ⟨fun _ => KE, fun q1 => ⟨fun _ => KE, fun q2 => absurd he (by omega)⟩⟩
  | succ d ih =>
    intro s c d9 he hs c0 c1 k
    unfold mw at k
    have KE : (s.1 < 0 ∨ len ≤ s.1) → f_X12_walk_u242 Q σ x s.2.2 s.2.1 := fun w => by
      rw [if_pos w] at k
      unfold mw_fin at k
      unfold f_X12_walk_u242 f_X12_walk_u268
      rw [eh]
      refine ⟨fun z => ?_, fun z => ⟨fun y => ?_, fun y _ => ⟨mt_I (by have := hs.1; omega) (by have := hs.2.1; omega), ?_⟩⟩⟩
      · rw [if_neg z] at k; exact k
      · rw [if_pos z, if_pos y] at k; exact k
      · rw [if_pos z, if_neg y] at k; rw [Int.add_comm]; exact k
    unfold f_X12_walk_u120
    refine ⟨fun q1 => KE (Or.inl q1), fun q1 => ⟨fun q2 => KE (Or.inr q2), fun q2 => ?_⟩⟩
    have ei : ¬ (s.1 < 0 ∨ len ≤ s.1) := by omega
    rw [if_neg ei] at k
    rw [ev s.1 (by omega) (by omega)]
    have vr := v s.1
    obtain ⟨td, tm⟩ := mq_iv_2 vr.1
    have f1 := mw_sp_1 val s
    have f2 := mw_sp_r val s
    have f3 := mw_sp_w val s
    have hn := mw_s_n v hs
    obtain ⟨s1, s2, s3⟩ := id hs
    refine ⟨mt_I2 (by omega) (by omega), mt_I2 (by omega) (by omega), by omega, by omega, fun I8 y6 e6 => ⟨by omega, ?_, fun y8 e8 => ?_⟩⟩
    · rw [e6, td]; exact mt_I (by omega) (by omega)
    rw [e6, td] at e8
    rw [← e8] at f2 f3 k
    -- on
    have NX : ∀ c', 0 ≤ c' → c' ≤ 20000 - (d : Int) → mw_e val len x d (mw_sp val s) c' → Q (mw val len x h d (mw_sp val s) c') σ → ∀ r' w', r' = (mw_sp val s).2.1 → w' = (mw_sp val s).2.2 → f_X12_walk_u224 Q (f_X12_walk_u120 Q (f_X12_walk_u175 Q) (f_X12_walk_u242 Q) (d + 1)) σ w x len w' r' s.1 c' := by
      intro c' a0 a1 he' k' r' w' er ew
      have go : ∀ y, y = (mw_sp val s).1 → f_X12_walk_u120 Q (f_X12_walk_u175 Q) (f_X12_walk_u242 Q) (d + 1) σ w x len w' r' y c' := fun y ey => by
        rw [er, ew, ey]
        exact ih (mw_sp val s) c' (by omega) he' hn a0 a1 k'
      rw [← ew] at f1
      unfold f_X12_walk_u224 f_X12_walk_u236
      refine ⟨fun z => ⟨mt_I (by omega) (by omega), fun y2 e2 => go y2 ?_⟩, fun z => ⟨mt_I (by omega) (by omega), fun y2 e2 => go y2 ?_⟩⟩
      · rw [f1, if_pos z]; exact e2
      · rw [f1, if_neg z]; exact e2
    have MT : (s.2.1 = y8 ∨ s.2.1 = y8 + 1) → f_X12_walk_u169 Q (f_X12_walk_u120 Q (f_X12_walk_u175 Q) (f_X12_walk_u242 Q) (d + 1)) (f_X12_walk_u175 Q) σ w x len s.2.2 s.2.1 s.1 c y6 y8 := by
      intro hi
      have hon : mw_on val s := by unfold mw_on; rw [← e8]; exact hi
      rw [if_pos hi] at k f3
      unfold f_X12_walk_u169
      refine ⟨fun ne => ⟨mt_I2 (by omega) (by omega), fun y2 e2 => ?_⟩, fun eq => ?_⟩
      · rw [if_neg ne] at k
        have he' : mw_e val len x d (mw_sp val s) (c + 1) := by
          rcases he with z | z | z
          · exact absurd z ei
          · exact z.2.resolve_left ne
          · exact absurd hon z.1
        subst e2
        have W2 : ∀ r', r' = (mw_sp val s).2.1 → f_X12_walk_u197 Q (f_X12_walk_u120 Q (f_X12_walk_u175 Q) (f_X12_walk_u242 Q) (d + 1)) σ w x len s.2.2 s.1 (c + 1) y6 r' := by
          intro r' er
          have go := NX (c + 1) (by omega) (by omega) he' k r'
          unfold f_X12_walk_u197 f_X12_walk_u212 f_X12_walk_u222
          have t2 : -2 ≤ Int.tmod y6 2 ∧ Int.tmod y6 2 ≤ 2 := by
            have z0 : 0 ≤ y6 := by rw [e6]; unfold mq_iv; omega
            rw [Int.tmod_eq_emod_of_nonneg z0]; omega
          rw [← e6] at tm
          refine ⟨by omega, mt_I (by omega) (by omega), fun z => ⟨fun z2 => ?_, fun z2 => ?_⟩, fun z => ⟨fun z2 => ?_, fun z2 => ?_⟩⟩
          · rw [if_neg (fun y => z (tm.2 y))] at f3; exact go 0 er (by omega)
          · rw [if_neg (fun y => z (tm.2 y))] at f3; exact go 1 er (by omega)
          · rw [if_pos (tm.1 z)] at f3; exact go 0 er (by omega)
          · rw [if_pos (tm.1 z)] at f3; exact go 1 er (by omega)
        refine ⟨fun z => W2 y8 ?_, fun z => ⟨mt_I (by omega) (by omega), W2 (y8 + 1) ?_⟩⟩
        · rw [f2, if_neg z, if_pos (hi.resolve_left z)]
        · rw [f2, if_pos z]
      · rw [if_pos eq] at k
        unfold f_X12_walk_u175; exact k
    refine ⟨fun z => MT (Or.inl z), fun z => ⟨mt_I (by omega) (by omega), fun z2 => ?_, fun z2 => MT (Or.inr z2)⟩⟩
    rw [if_neg (by omega)] at k f3
    rw [if_neg z, if_neg z2] at f2
    have he' : mw_e val len x d (mw_sp val s) c := by
      rcases he with y | y | y
      · exact absurd y ei
      · exact absurd y.1 (by unfold mw_on; rw [← e8]; omega)
      · exact y.2
    exact NX c c0 (by omega) he' k s.2.1 s.2.2 f2.symm f3.symm
theorem m_walk {Q : Int → ml_St → Prop} {h told ts cap w e x : Int} {tb cl pr sz : Int → Int} {T : Int → Int → Int} {τ : ml_St} (i : IM h told ts cap tb cl pr sz T τ) (k1 : mw_c told h T sz w e x → ∀ σ, IM h told ts cap tb cl pr sz T σ → (∀ j, j < 215 → σ j = τ j) → Q (mw_a h T sz w e x) σ) (k0 : ¬ mw_c told h T sz w e x → Q (-1) τ) : f_X12_walk τ w e x Q := by
  have t16 := i.1.2.2.2.2.2
  have h2 := i.1.2.2.1
  have h5 := i.1.2.2.2.1
  unfold f_X12_walk f_X12_walk_u0
  unfold f_X12_walk_u33
  refine m_isWord i (fun w0 w1 _ => ⟨fun z => absurd z (by omega), fun _ => ?_⟩) (fun n _ => ⟨fun _ => k0 (fun y => n ⟨y.1, y.2.1⟩), fun z => absurd rfl z⟩)
  obtain ⟨c1, c2, c3, c4⟩ := IM_cv i w0 w1
  have nn := (i.2.2.2.2 w w0 w1).2.1
  refine s_signsOf w0 (by omega) nn.1 nn.2 c3 c4 (fun _ => ⟨fun z => k0 (fun y => by have := y.2.2.1; unfold mt_top at z; omega), fun few => m_isEnd h2 h5 i.1.1 (fun e0 e1 _ => ⟨fun z => absurd z (by omega), fun _ => ⟨fun x0 => ⟨18, ?_⟩, fun z => k0 (fun y => z y.2.2.2.2.2)⟩⟩) (fun n _ => ⟨fun _ => k0 (fun y => n ⟨y.2.2.2.1, y.2.2.2.2.1⟩), fun z => absurd rfl z⟩)⟩)
  have few : mt_cn mt_one T sz w ≤ 2000 := by unfold mt_top at few; omega
  have k1 := k1 ⟨w0, w1, few, e0, e1, x0⟩
  have C0 := c1.1
  have good : ∀ u : Nat, (u : Int) < told → mt_good h u (T u) (sz u) := fun u hu => (i.2.2.2.2 u (by omega) hu).1.1
  have mvu : ∀ u, 0 ≤ u → u < told → mw_v h (mt_ex T sz u) := fun u u0 u1 => by
    have := mt_ex_v (h := h) (T := T) (sz := sz) h2 u.toNat (by omega) (fun v hv => good v (by omega))
    rw [show ((u.toNat : Nat) : Int) = u by omega] at this
    exact this
  -- the end
  have E : ∀ σ, IM h told ts cap tb cl pr sz T σ → (∀ j, j < 215 → σ j = τ j) → σ 255 w = min 2001 (mt_cn mt_one T sz w) → (∀ j, 0 ≤ j → j < mt_cn mt_one T sz w → j < 2000 → σ 254 (2000 * w + j) = mq_iv (mt_ex T sz w j)) → f_X12_walk_u56 Q σ w e x := by
    intro σ i' f' ew er
    unfold f_X12_walk_u56
    unfold f_X12_walk_u77 f_X12_walk_u97 f_X12_walk_u115
    rw [ew, i'.1.1, show min 2001 (mt_cn mt_one T sz w) = mt_cn mt_one T sz w by omega]
    have kk := k1 σ i' f'
    unfold mw_a at kk
    have S : ∀ s, mw_0 h (mt_cn mt_one T sz w) e = s → mw_s h s → ((s.1 = 0 ∧ s.2.2 = 1) ∨ (s.1 = mt_cn mt_one T sz w - 1 ∧ s.2.2 = 0)) → ∃ N1, f_X12_walk_u120 Q (f_X12_walk_u175 Q) (f_X12_walk_u242 Q) N1 σ w x (mt_cn mt_one T sz w) s.2.2 s.2.1 s.1 0 := fun s es hs st => by
      rw [es] at kk
      exact ⟨20001, s_follow12 h2 h5 i'.1.1 w0 (by omega) (mvu w w0 w1) C0 few (fun j j0 j1 => er j j0 j1 (by omega)) 20000 s 0 (by omega) (mw_ends h5 (mvu w w0 w1) C0 few hs st 0) hs (by omega) (by omega) kk⟩
    refine ⟨w0, by omega, fun _ y2 e2 _ => ?_⟩
    subst e2
    refine ⟨fun q _ => ⟨fun _ _ => ⟨mt_I (by omega) (by omega), fun _ => ⟨fun _ => ⟨mt_I (by omega) (by omega), ?_⟩, fun z => absurd q z⟩⟩, fun z => absurd q z⟩, fun q _ => ⟨fun z => absurd z q, fun _ _ => ⟨fun z => absurd z q, fun _ => ?_⟩⟩⟩
    · exact S (mt_cn mt_one T sz w - 1, e - h, 0) (by unfold mw_0; rw [if_neg (by omega), if_neg (by omega), if_neg (by omega)]) ⟨by show 0 ≤ e - h; omega, by show e - h < h; omega, Or.inl rfl⟩ (Or.inr ⟨rfl, rfl⟩)
    · exact S (0, e, 1) (by unfold mw_0; rw [if_pos (by omega), if_pos (by omega), if_pos (by omega)]) ⟨e0, by show e < h; omega, Or.inr rfl⟩ (Or.inl ⟨rfl, rfl⟩)
  have L : ∀ (N : Nat) (v : Int) (σ : ml_St), 0 ≤ v → v ≤ w + 1 → w + 1 - v < N → IM h told ts cap tb cl pr sz T σ → (∀ j, j < 215 → σ j = τ j) → (∀ u, 0 ≤ u → u < v → σ 255 u = min 2001 (mt_cn mt_one T sz u) ∧ ∀ j, 0 ≤ j → j < mt_cn mt_one T sz u → j < 2000 → σ 254 (2000 * u + j) = mq_iv (mt_ex T sz u j)) → f_X12_walk_u38 Q (f_X12_walk_u56 Q) N σ w e x v := by
    intro N
    induction N with
    | zero => intro v σ v0 v1 hN; omega
    | succ N ih =>
      intro v σ v0 v1 hN i' f' hv
      unfold f_X12_walk_u38
      refine ⟨fun _ => E σ i' f' (hv w w0 (by omega)).1 (hv w w0 (by omega)).2, fun q => ?_⟩
      have vt : v < told := by omega
      obtain ⟨g, s1, s2⟩ := (i'.2.2.2.2 v v0 vt).1
      have et : mt_teq (sz v) (T v) (fun j => σ 218 (100 * v + j)) := fun j j0 j1 => (s2 j j0 j1).symm
      have g' := mt_good_c et g
      have iT := IM_T i'
      have gv := good v.toNat (by omega)
      have so0 : ∀ c, 0 ≤ mt_one c := fun c => by unfold mt_one; omega
      have c0 : ∀ u, 0 ≤ u → u < v → 0 ≤ mt_cn mt_one T sz u := fun u u0 u1 => by
        have := mt_cn_0 (h := h) (T := T) (sz := sz) so0 u.toNat (by omega) (fun z hz => iT z (by omega))
        rw [show ((u.toNat : Nat) : Int) = u by omega] at this
        exact this
      have ec : mt_ctw (fun j => σ 218 (100 * v + j)) (sz v) mt_one (mt_cn mt_one T sz) = mt_cn mt_one T sz v := by
        have := mt_cn_e (h := h) (sg := mt_one) (T := T) (sz := sz) (w := v.toNat) (by omega) gv
        rw [show ((v.toNat : Nat) : Int) = v by omega] at this
        rw [this]
        exact (mt_ct_t (h := h) (w := v) (by have := g.1; omega) et (fun _ _ _ => rfl) _ _ _ 1 _ (Int.le_refl 0) (by have := g.1; omega) g.2.2.2).symm
      have ee : mt_wrw (fun j => σ 218 (100 * v + j)) (sz v) (mt_cn mt_one T sz) (mt_ex T sz) = mt_ex T sz v := by
        have := mt_ex_e (h := h) (T := T) (sz := sz) (w := v.toNat) (by omega) gv
        rw [show ((v.toNat : Nat) : Int) = v by omega] at this
        rw [this]
        exact (mt_wr_t (h := h) (w := v) (by have := g.1; omega) et (fun _ _ _ => ⟨rfl, rfl⟩) _ _ _ 1 _ _ _ (Int.le_refl 0) (by have := g.1; omega) g.2.2.2).symm
      refine s_writesOut (h := h) (cx := mt_cn mt_one T sz) (ex := mt_ex T sz) h2 v0 (by omega) h5 (by have := g.1; omega) g.2.1 s1 g'.2.2.1 g'.2.2.2 (fun u u0 u1 => ⟨c0 u u0 u1, (hv u u0 u1).1, (hv u u0 u1).2, mvu u u0 (by omega)⟩) (fun σ2 f2 o2 e2 ro2 r2 => ⟨mt_I (by omega) (by omega), fun y ey => ?_⟩)
      subst ey
      rw [ec] at e2 r2
      rw [ee] at r2
      refine ih (v + 1) σ2 (by omega) (by omega) (by omega) (IM_kq (mt_kq_o (fun j hj => f2.1 j (by omega) (by omega) (by omega) (by omega)) (fun b b1 b2 => f2.2 b (by omega) (by omega) (by omega))) i') (fun j hj => by rw [f2.1 j (by omega) (by omega) (by omega) (by omega), f' j hj]) (fun u u0 u1 => ?_)
      by_cases z : u = v
      · rw [z]; exact ⟨e2, r2⟩
      · refine ⟨by rw [o2 u z]; exact (hv u u0 (by omega)).1, fun j j0 j1 j2 => ?_⟩
        rw [ro2 _ (by omega)]; exact (hv u u0 (by omega)).2 j j0 j1 j2
  exact L 18 0 τ (by omega) (by omega) (by omega) i (fun _ _ => rfl) (fun u u0 u1 => absurd u1 (by omega))
