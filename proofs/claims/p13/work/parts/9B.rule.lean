/-! the model: power, left, rule, those, first -/
theorem mb_l2i2 {x : Int} (h0 : -2147483648 ≤ x) (h1 : x ≤ 2147483647) : b_l2i x = x := by
  unfold b_l2i
  rw [Int64.toInt32_ofInt, Int32.toInt_ofInt, Int.bmod_def, show ((Int32.size : Nat) : Int) = 4294967296 from rfl]
  split <;> omega
theorem s_plus_t {Q : Int → ml_St → Prop} {x y : Int} {τ : ml_St} (k : ∀ r, I64 r → Q r τ) : f_X12_plus τ x y Q := by
  unfold f_X12_plus f_X12_plus_u0 f_X12_plus_u19
  exact ⟨fun _ => k _ (w64_r _), fun _ => k _ ⟨by omega, by omega⟩⟩
theorem s_times_t {Q : Int → ml_St → Prop} {x y : Int} {τ : ml_St} (k : ∀ r, I64 r → Q r τ) : f_X12_times τ x y Q := by
  unfold f_X12_times f_X12_times_u0 f_X12_times_u22 f_X12_times_u25
  exact ⟨fun _ => k _ (w64_r _), fun h => ⟨h, fun _ => k _ (w64_r _), fun _ => k _ ⟨by omega, by omega⟩⟩⟩
/-- the powers of a word that is made -/
theorem m_powers {Q : ml_St → Prop} {h told ts cap w : Int} {tb cl pr sz : Int → Int} {T : Int → Int → Int} {τ : ml_St} (i : IM h told ts cap tb cl pr sz T τ) (q : mt_md told (mt_mk h T sz) w) (k : ∀ σ (a n : Nat), IM h told ts cap tb cl pr sz T σ → (∀ j, j < 215 → σ j = τ j) → mq_p h (mt_mk h T sz w) cl a n σ → Q σ) : f_X12_powers τ w Q := by
  obtain ⟨g1, g2, g3, g4, g5⟩ := IM_w i q
  exact s_powers i.1.2.2.1 i.1.2.2.2.1 g4 (by omega) i.1.1 g2 g1 i.2.2.1.2.2.2 i.2.2.1.2.2.1 (fun σ a n f p => k σ a n (IM_kq (mq_f_kq f) i) (mq_f_kq f).2.2.2 p)
theorem m_power {Q : Int → ml_St → Prop} {h told ts cap w x : Int} {tb cl pr sz : Int → Int} {T : Int → Int → Int} {τ : ml_St} (i : IM h told ts cap tb cl pr sz T τ) (k1 : mt_md told (mt_mk h T sz) w → 0 ≤ x → x ≤ 1 → ∀ σ (a n : Nat), IM h told ts cap tb cl pr sz T σ → (∀ j, j < 215 → σ j = τ j) → mq_p h (mt_mk h T sz w) cl a n σ → Q (if x = 0 then (a : Int) + 1 else n - a) σ) (k0 : ¬ (mt_md told (mt_mk h T sz) w ∧ 0 ≤ x ∧ x ≤ 1) → Q (-1) τ) : f_X12_power τ w x Q := by
  unfold f_X12_power f_X12_power_u0
  unfold f_X12_power_u18 f_X12_power_u40
  refine m_isMade i (fun q _ => ⟨fun z => absurd z (by omega), fun _ => s_lies (fun x0 x1 _ => ⟨fun _ => m_powers i q (fun σ a n i' j' p => ?_), fun z => absurd z (by omega)⟩) (fun q2 _ => ⟨fun z => absurd rfl z, fun _ => k0 (fun z => q2 z.2)⟩)⟩) (fun q _ => ⟨fun _ => k0 (fun z => q z.1), fun z => absurd rfl z⟩)
  have k := k1 q x0 x1 σ a n i' j' p
  rw [p.2.2.1, p.2.2.2.1]
  refine ⟨fun z _ => ?_, fun z _ => ?_⟩
  · rw [if_neg z] at k; exact k
  · rw [if_pos z] at k; exact k
theorem s_isPower12 {Q : Int → ml_St → Prop} {x : Int} {τ : ml_St} (k1 : 1 ≤ x → x ≤ 1000000000000000000 → Q 1 τ) (k0 : ¬ (1 ≤ x ∧ x ≤ 1000000000000000000) → Q 0 τ) : f_X12_isPower τ x Q := by
  unfold f_X12_isPower f_X12_isPower_u0 f_X12_isPower_u18 f_X12_isPower_u19
  exact ⟨fun _ => k0 (by omega), fun _ => ⟨fun _ => k0 (by omega), fun _ => k1 (by omega) (by omega)⟩⟩
theorem s_isLoops12 {Q : Int → ml_St → Prop} {x : Int} {τ : ml_St} (k1 : 0 ≤ x → x ≤ 1000000000000000000 → Q 1 τ) (k0 : ¬ (0 ≤ x ∧ x ≤ 1000000000000000000) → Q 0 τ) : f_X12_isLoops τ x Q := by
  unfold f_X12_isLoops f_X12_isLoops_u0 f_X12_isLoops_u18 f_X12_isLoops_u19
  exact ⟨fun _ => k0 (by omega), fun _ => ⟨fun _ => k0 (by omega), fun _ => k1 (by omega) (by omega)⟩⟩
theorem m_left {Q : Int → ml_St → Prop} {h told ts cap w x : Int} {tb cl pr sz : Int → Int} {T : Int → Int → Int} {τ : ml_St} (i : IM h told ts cap tb cl pr sz T τ) (k : ∀ r σ, IM h told ts cap tb cl pr sz T σ → (∀ j, j < 215 → σ j = τ j) → Q r σ) : f_X12_left τ w x Q := by
  have z0 : Q (-1) τ := k _ τ i (fun _ _ => rfl)
  unfold f_X12_left f_X12_left_u0
  unfold f_X12_left_u15
  refine m_isMade i (fun q _ => ⟨fun z => absurd z (by omega), fun _ => s_isPower12 (fun x0 x1 _ => ⟨fun _ => m_powers i q (fun σ a n i' j' p => ?_), fun z => absurd z (by omega)⟩) (fun q2 _ => ⟨fun z => absurd rfl z, fun _ => z0⟩)⟩) (fun q _ => ⟨fun _ => z0, fun z => absurd rfl z⟩)
  obtain ⟨p1, p2, p3, p4, p5, p6, p7, p8, p9⟩ := p
  rw [p3, p4, p5]
  refine fun _ => ⟨fun c _ _ _ => ?_, fun c => ?_⟩
  · have e1 : w64 (x - (a + 1)) = x - (a + 1) := w64_id ⟨by omega, by omega⟩
    have tm : Int.tmod (x - (a + 1)) (n - a) = (x - (a + 1)) % (n - a) := Int.tmod_eq_emod_of_nonneg (by omega)
    have m0 := Int.emod_nonneg (x - (a + 1)) (show (n : Int) - a ≠ 0 by omega)
    have m1 := Int.emod_lt_of_pos (x - (a + 1)) (show 0 < (n : Int) - a by omega)
    rw [e1, tm, mb_l2i2 (by omega) (by omega)]
    exact ⟨by omega, mt_I (by omega) (by omega), fun y e => ⟨by omega, by omega, fun _ _ => ⟨by omega, fun _ => s_times_t (fun r _ _ => s_plus_t (fun r2 _ _ => k _ σ i' j'))⟩⟩⟩
  · rw [mb_l2i2 (by omega) (by omega)]
    exact ⟨by omega, by omega, fun _ => k _ σ i' j'⟩
theorem s_isRule {Q : Int → ml_St → Prop} {h p : Int} {v cl : Int → Int} {a n : Nat} {σ : ml_St} (h2 : 0 ≤ h) (h5 : h ≤ 5) (hv : mt_M h v) (ov : mt_ok h v) (hc : mt_M h cl) (pp : mq_p h v cl a n σ) (p0 : 1 ≤ p) (p1 : p ≤ n - a) (k1 : Q 1 σ) (k0 : p < n - a → Q 0 σ) : f_X12_isRule σ p Q := by
  obtain ⟨p1, p2, p3, p4, p5, p6, p7, p8, p9⟩ := pp
  unfold f_X12_isRule f_X12_isRule_u0
  rw [p3]
  refine fun _ => ⟨mt_I (by omega) (by omega), by omega, by omega, fun _ _ => ⟨by omega, by omega, fun _ y7 e7 _ y9 e9 => ⟨1000, ?_⟩⟩⟩
  subst e9
  have L : ∀ (N : Nat) (j : Nat), (j : Int) ≤ n - a → n - a - j < N → f_X12_isRule_u28 Q (f_X12_isRule_u64 Q) (f_X12_isRule_u72 Q) N σ p y7 (a + 1 + j) := by
    intro N
    induction N with
    | zero => intro j j0 hN; omega
    | succ N ih =>
      intro j j0 hN
      unfold f_X12_isRule_u28
      rw [p3, p4]
      refine fun _ _ => ⟨mt_I (by omega) (by omega), fun c => ?_, fun c => ⟨mt_I (by omega) (by omega), by omega, by omega, fun _ => ⟨by omega, by omega, fun _ => ⟨fun _ => ⟨mt_I (by omega) (by omega), fun y e => ?_⟩, fun c2 => ?_⟩⟩⟩⟩
      · unfold f_X12_isRule_u72; exact k1
      · have := ih (j + 1) (by omega) (by omega)
        rw [e, show (a : Int) + 1 + j + 1 = a + 1 + ((j + 1 : Nat) : Int) by omega]; exact this
      · unfold f_X12_isRule_u64
        refine k0 ?_
        by_cases z : p = n - a
        · refine absurd ?_ c2
          have x1 := p7 (n + j) (by omega)
          have x2 := p7 (a + j) (by omega)
          have x3 := p7 n (by omega)
          have x4 := p7 a (by omega)
          rw [e7, z, show (a : Int) + 1 + j + (n - a) = ((n + j : Nat) : Int) + 1 by omega, show (a : Int) + 1 + j = ((a + j : Nat) : Int) + 1 by omega, show (a : Int) + 1 + (n - a) = n + 1 by omega, x1, x2, x3, x4]
          exact mt_lo_d h2 h5 hv ov hc p8 j
        · omega
  have := L 1000 0 (by omega) (by omega)
  rw [show (a : Int) + 1 + ((0 : Nat) : Int) = a + 1 by omega] at this
  exact this
theorem m_rule {Q : Int → ml_St → Prop} {h told ts cap w x : Int} {tb cl pr sz : Int → Int} {T : Int → Int → Int} {τ : ml_St} (i : IM h told ts cap tb cl pr sz T τ) (k : ∀ r σ, IM h told ts cap tb cl pr sz T σ → (∀ j, j < 215 → σ j = τ j) → Q r σ) : f_X12_rule τ w x Q := by
  have z0 : Q (-1) τ := k _ τ i (fun _ _ => rfl)
  have h2 := i.1.2.2.1
  have h5 := i.1.2.2.2.1
  unfold f_X12_rule f_X12_rule_u0
  unfold f_X12_rule_u20
  refine m_isMade i (fun q _ => ⟨fun z => absurd z (by omega), fun _ => s_lies (fun x0 x1 _ => ⟨fun _ => m_powers i q (fun σ a n i' j' p => ⟨1000, ?_⟩), fun z => absurd z (by omega)⟩) (fun q2 _ => ⟨fun z => absurd rfl z, fun _ => z0⟩)⟩) (fun q _ => ⟨fun _ => z0, fun z => absurd rfl z⟩)
  obtain ⟨g1, g2, g3, g4, g5⟩ := IM_w i' q
  have E : ∀ j : Int, 1 ≤ j → j ≤ n - a → f_X12_rule_u45 Q σ x j := by
    obtain ⟨p1, p2, p3, p4, p5, p6, p7, p8, p9⟩ := p
    intro j j0 j1
    unfold f_X12_rule_u45
    rw [p3]
    refine fun _ => ⟨mt_I (by omega) (by omega), by omega, by omega, fun _ _ => ⟨by omega, by omega, fun _ y7 e7 _ y9 e9 => ⟨a + 3, ?_⟩⟩⟩
    have L : ∀ (N : Nat) (y : Int), 0 ≤ y → y ≤ a + 1 → y + 1 < N → f_X12_rule_u74 Q (f_X12_rule_u113 Q) N σ x j y7 y := by
      intro N
      induction N with
      | zero => intro y y0 y1 hN; omega
      | succ N ih =>
        intro y y0 y1 hN
        have out : f_X12_rule_u113 Q σ x j y7 y := by
          unfold f_X12_rule_u113 f_X12_rule_u135
          exact ⟨fun _ => ⟨fun _ => k _ σ i' j', fun _ => k _ σ i' j'⟩, fun _ => k _ σ i' j'⟩
        unfold f_X12_rule_u74
        refine ⟨fun _ => out, fun c => ⟨mt_I (by omega) (by omega), mt_I (by omega) (by omega), by omega, by omega, fun _ => ⟨mt_I (by omega) (by omega), by omega, by omega, fun _ => ⟨fun _ => out, fun _ => ⟨mt_I (by omega) (by omega), fun y9 e => ?_⟩⟩⟩⟩⟩
        subst e
        exact ih _ (by omega) (by omega) (by omega)
    exact L _ y9 (by omega) (by omega) (by omega)
  have L : ∀ (N : Nat) (j : Int), 1 ≤ j → j ≤ n - a → n - a - j < N → f_X12_rule_u31 Q (f_X12_rule_u45 Q) N σ x j := by
    intro N
    induction N with
    | zero => intro j j0 j1 hN; omega
    | succ N ih =>
      intro j j0 j1 hN
      unfold f_X12_rule_u31
      refine s_isRule (by omega) h5 g2 g3 i'.2.2.1.2.2.2 p j0 j1 (fun _ => ⟨fun _ => E j j0 j1, fun z => absurd z (by omega)⟩) (fun c _ => ⟨fun z => absurd rfl z, fun _ => ⟨mt_I (by have := p.2.1; omega) (by have := p.2.1; omega), fun y e => ?_⟩⟩)
      subst e
      exact ih (j + 1) (by omega) (by omega) (by omega)
  exact L 1000 1 (by omega) (by have := p.1; omega) (by have := p.2.1; omega)
theorem s_ofResidue {Q : Int → ml_St → Prop} {x1 x2 x4 x6 : Int} {τ : ml_St} (x0 : 0 ≤ x1) (x9 : x1 < 2900) (p : τ 215 33 ≠ 0) (k : ∀ r v, I64 r → Q r (ml_up τ 215 36 v)) : f_X12_ofResidue τ x1 x2 x4 x6 Q := by
  unfold f_X12_ofResidue f_X12_ofResidue_u0
  intro σ1 s1
  have e33 : σ1 215 33 = τ 215 33 := by rw [s1, ml_up_i (by omega)]
  have k1 : ∀ r, I64 r → Q r σ1 := fun r hr => by rw [s1]; exact k r 0 hr
  have k2 : ∀ r v, I64 r → Q r (ml_up σ1 215 36 v) := fun r v hr => by
    have : ml_up σ1 215 36 v = ml_up τ 215 36 v := by
      rw [s1]; funext j b
      by_cases q : j = 215
      · subst q
        by_cases q2 : b = 36
        · subst q2; rw [ml_up_same, ml_up_same]
        · rw [ml_up_i q2, ml_up_i q2, ml_up_i q2]
      · rw [ml_up_k q, ml_up_k q, ml_up_k q]
    rw [this]; exact k r v hr
  have z0 : I64 0 := ⟨by omega, by omega⟩
  have o0 : I64 1 := ⟨by omega, by omega⟩
  have U : ∀ s, f_X12_ofResidue_u68 Q σ1 x6 s := fun s => by
    unfold f_X12_ofResidue_u68
    exact ⟨fun _ σ2 s2 _ => ⟨by rw [s2, ml_up_i (by omega), e33]; exact p, by rw [s2]; exact k2 _ _ (w64_r _)⟩, fun _ => k1 0 z0⟩
  rw [e33]
  unfold f_X12_ofResidue_u129 f_X12_ofResidue_u171
  exact fun _ => ⟨fun c => ⟨x0, x9, fun _ => ⟨fun _ => k1 0 z0, fun _ => ⟨x0, x9, fun _ _ => ⟨c, fun _ => ⟨x0, x9, fun _ _ => ⟨c, fun y15 _ _ => ⟨p, fun _ => k1 0 z0, fun _ => ⟨fun _ _ y24 _ => ⟨fun _ σ26 s26 => by rw [s26]; exact k2 1 _ o0, fun _ => k1 0 z0⟩, fun _ => k1 0 z0⟩⟩⟩⟩, fun _ => k1 0 z0⟩⟩⟩⟩, fun _ => ⟨x0, x9, fun _ => ⟨fun _ => ⟨fun _ _ _ => ⟨p, fun _ => U _⟩, fun _ => U _⟩, fun _ => k1 0 z0⟩⟩⟩
/-- what thoseOf changes after powers -/
theorem mq_37 {h told ts cap : Int} {tb cl pr sz : Int → Int} {T : Int → Int → Int} {σ σ' : ml_St} (i : IM h told ts cap tb cl pr sz T σ) (f : ∀ j, j ≠ 215 → σ' j = σ j) (b : ∀ b, b ≠ 36 → b ≠ 37 → σ' 215 b = σ 215 b) : IM h told ts cap tb cl pr sz T σ' := IM_kq (mt_kq_o (fun j hj => f j (by omega)) (fun c h1 h2 => b c (by omega) (by omega))) i
theorem m_thoseOf {Q : Int → ml_St → Prop} {h told ts cap w x f t : Int} {tb cl pr sz : Int → Int} {T : Int → Int → Int} {τ : ml_St} (i : IM h told ts cap tb cl pr sz T τ) (q : mt_md told (mt_mk h T sz) w) (k : ∀ r σ, IM h told ts cap tb cl pr sz T σ → (∀ j, j < 215 → σ j = τ j) → Q r σ) : f_X12_thoseOf τ w x f t Q := by
  unfold f_X12_thoseOf f_X12_thoseOf_u0
  refine m_powers i q (fun σ a n i' j' p σ2 s2 => ⟨1000, ?_⟩)
  obtain ⟨p1, p2, p3, p4, -⟩ := p
  have L2 : ∀ (N : Nat) (j : Int) (y : Int) (σ : ml_St), a + 1 ≤ j → j ≤ n + 1 → n + 1 - j < N → IM h told ts cap tb cl pr sz T σ → (∀ j, j < 215 → σ j = τ j) → σ 215 32 = a + 1 → σ 215 33 = n - a → f_X12_thoseOf_u99 Q (f_X12_thoseOf_u173 Q) N σ x f t y j := by
    intro N
    induction N with
    | zero => intro j y σ j0 j1 hN; omega
    | succ N ih =>
      intro j y σ j0 j1 hN i' j' e1 e2
      unfold f_X12_thoseOf_u99
      rw [e1, e2]
      refine fun _ _ => ⟨mt_I (by omega) (by omega), fun c => ?_, fun c => s_ofResidue (by omega) (by omega) (by omega) (fun r v _ _ y7 e7 _ => ?_)⟩
      · unfold f_X12_thoseOf_u173; exact k _ σ i' j'
      have U : ∀ σ', (∀ j, j ≠ 215 → σ' j = σ j) → (∀ b, b ≠ 36 → b ≠ 37 → σ' 215 b = σ 215 b) → f_X12_thoseOf_u167 Q (f_X12_thoseOf_u99 Q (f_X12_thoseOf_u173 Q) N) σ' x f t y7 j := fun σ' g1 g2 => by
        unfold f_X12_thoseOf_u167
        refine ⟨mt_I (by omega) (by omega), fun y e => ?_⟩
        subst e
        exact ih (j + 1) y7 σ' (by omega) (by omega) (by omega) (mq_37 i' g1 g2) (fun j hj => by rw [g1 j (by omega), j' j hj]) (by rw [g2 32 (by omega) (by omega), e1]) (by rw [g2 33 (by omega) (by omega), e2])
      have U2 : f_X12_thoseOf_u159 Q (f_X12_thoseOf_u99 Q (f_X12_thoseOf_u173 Q) N) (ml_up σ 215 36 v) x f t y7 j := by
        unfold f_X12_thoseOf_u159
        intro _ σ2 s2
        exact U σ2 (fun j hj => by rw [s2, ml_up_k hj, ml_up_k hj]) (fun b h1 h2 => by rw [s2, ml_up_i h2, ml_up_i h1])
      have U1 := U (ml_up σ 215 36 v) (fun j hj => ml_up_k hj) (fun b h1 h2 => ml_up_i h1)
      exact ⟨fun _ => U1, fun _ _ => ⟨fun _ => U2, fun _ _ _ => ⟨fun _ => U1, fun _ => U2⟩⟩⟩
  have L1 : ∀ (N : Nat) (j : Int) (y : Int) (σ : ml_St), 1 ≤ j → j ≤ a + 1 → a + 1 - j < N → IM h told ts cap tb cl pr sz T σ → (∀ j, j < 215 → σ j = τ j) → σ 215 32 = a + 1 → σ 215 33 = n - a → f_X12_thoseOf_u16 Q (f_X12_thoseOf_u93 Q) N σ x f t y j := by
    intro N
    induction N with
    | zero => intro j y σ j0 j1 hN; omega
    | succ N ih =>
      intro j y σ j0 j1 hN i' j' e1 e2
      unfold f_X12_thoseOf_u16
      rw [e1]
      refine fun _ => ⟨fun c => ?_, fun c => ⟨by omega, by omega, fun _ => ?_⟩⟩
      · unfold f_X12_thoseOf_u93
        rw [e1]
        refine fun _ y2 e => ⟨1000, ?_⟩
        subst e
        exact L2 1000 _ y σ (by omega) (by omega) (by omega) i' j' e1 e2
      have U : ∀ σ' y, (∀ j, j ≠ 215 → σ' j = σ j) → (∀ b, b ≠ 36 → b ≠ 37 → σ' 215 b = σ 215 b) → f_X12_thoseOf_u87 Q (f_X12_thoseOf_u16 Q (f_X12_thoseOf_u93 Q) N) σ' x f t y j := fun σ' y g1 g2 => by
        unfold f_X12_thoseOf_u87
        refine ⟨mt_I (by omega) (by omega), fun y1 e => ?_⟩
        subst e
        exact ih (j + 1) y σ' (by omega) (by omega) (by omega) (mq_37 i' g1 g2) (fun j hj => by rw [g1 j (by omega), j' j hj]) (by rw [g2 32 (by omega) (by omega), e1]) (by rw [g2 33 (by omega) (by omega), e2])
      have U1 := U σ y (fun _ _ => rfl) (fun _ _ _ => rfl)
      have U2 : ∀ s y8, f_X12_thoseOf_u84 Q (f_X12_thoseOf_u16 Q (f_X12_thoseOf_u93 Q) N) σ x f t y8 j s := fun s y8 => by
        unfold f_X12_thoseOf_u84
        intro σ1 s1
        exact U σ1 y8 (fun j hj => by rw [s1, ml_up_k hj]) (fun b h1 h2 => by rw [s1, ml_up_i h2])
      exact ⟨fun _ => U1, fun _ => ⟨fun _ => U1, fun _ => ⟨fun _ y8 _ _ => ⟨fun _ _ => U2 _ _, fun _ => U2 _ _⟩, fun _ => U1⟩⟩⟩
  have g1 : ∀ j, j ≠ 215 → σ2 j = σ j := fun j hj => by rw [s2, ml_up_k hj]
  have g2 : ∀ b, b ≠ 36 → b ≠ 37 → σ2 215 b = σ 215 b := fun b _ h2 => by rw [s2, ml_up_i h2]
  exact L1 1000 1 0 σ2 (by omega) (by omega) (by omega) (mq_37 i' g1 g2) (fun j hj => by rw [g1 j (by omega), j' j hj]) (by rw [g2 32 (by omega) (by omega), p3]) (by rw [g2 33 (by omega) (by omega), p4])
theorem m_those {Q : Int → ml_St → Prop} {h told ts cap w x f t : Int} {tb cl pr sz : Int → Int} {T : Int → Int → Int} {τ : ml_St} (i : IM h told ts cap tb cl pr sz T τ) (k : ∀ r σ, IM h told ts cap tb cl pr sz T σ → (∀ j, j < 215 → σ j = τ j) → Q r σ) : f_X12_those τ w x f t Q := by
  have z0 : Q (-1) τ := k _ τ i (fun _ _ => rfl)
  unfold f_X12_those f_X12_those_u0
  unfold f_X12_those_u52 f_X12_those_u55
  exact m_isMade i (fun q _ => ⟨fun z => absurd z (by omega), fun _ => s_isLoops12 (fun _ _ _ => ⟨fun z => absurd z (by omega), fun _ => s_isPower12 (fun _ _ _ => ⟨fun z => absurd z (by omega), fun _ => s_isPower12 (fun _ _ _ => ⟨fun z => absurd z (by omega), fun _ => ⟨fun _ => z0, fun _ => m_thoseOf i q (fun r σ i' j' _ => k r σ i' j')⟩⟩) (fun _ _ => ⟨fun _ => z0, fun z => absurd rfl z⟩)⟩) (fun _ _ => ⟨fun _ => z0, fun z => absurd rfl z⟩)⟩) (fun _ _ => ⟨fun _ => z0, fun z => absurd rfl z⟩)⟩) (fun q _ => ⟨fun _ => z0, fun z => absurd rfl z⟩)
theorem m_first {Q : Int → ml_St → Prop} {h told ts cap w x : Int} {tb cl pr sz : Int → Int} {T : Int → Int → Int} {τ : ml_St} (i : IM h told ts cap tb cl pr sz T τ) (k : ∀ r σ, IM h told ts cap tb cl pr sz T σ → (∀ j, j < 215 → σ j = τ j) → Q r σ) : f_X12_first τ w x Q := by
  have z0 : Q (-1) τ := k _ τ i (fun _ _ => rfl)
  unfold f_X12_first f_X12_first_u0
  unfold f_X12_first_u15 f_X12_first_u44
  exact m_isMade i (fun q _ => ⟨fun z => absurd z (by omega), fun _ => s_isLoops12 (fun _ _ _ => ⟨fun _ => m_thoseOf i q (fun r σ i' j' _ => ⟨fun _ _ => k _ σ i' j', fun _ => k _ σ i' j'⟩), fun z => absurd z (by omega)⟩) (fun _ _ => ⟨fun z => absurd rfl z, fun _ => z0⟩)⟩) (fun q _ => ⟨fun _ => z0, fun z => absurd rfl z⟩)
