/-! THE LAW: both sides stand for one state; each call keeps that; count answers alike -/
theorem IC_lo {h told ts cap : Int} {tb cl pr sz : Int → Int} {T : Int → Int → Int} {σ σ' : ml_St} (f : ∀ j, j < 215 → σ' j = σ j) (i : IC h told ts cap tb cl pr sz T σ) : IC h told ts cap tb cl pr sz T σ' := by
  obtain ⟨a, b, c, d, e, r, s⟩ := i
  have t16 := a.2.2.2.2.2
  refine ⟨?_, ?_, ?_, fun w w0 w1 => ?_, fun w w0 w1 => ?_, ic_R_k (fun w w0 w1 => ⟨by rw [f _ (by omega)], by rw [f _ (by omega)], f _ (by omega)⟩) r, ?_⟩
  · unfold ic_A; rw [f 1 (by omega)]; exact a
  · unfold ic_B; rw [f 2 (by omega), f 3 (by omega)]; exact b
  · unfold ic_C; rw [f 4 (by omega), f 5 (by omega)]; exact c
  · rw [f _ (by omega)]; exact d w w0 w1
  · obtain ⟨x1, x2⟩ := e w w0 w1
    refine ⟨?_, mt_wv_eq (f _ (by omega)) (f _ (by omega)) (f _ (by omega)) x2⟩
    unfold ic_T; rw [f (119 + 6 * w) (by omega), f (120 + 6 * w) (by omega)]; exact x1
  · exact ic_S_k (fun j h1 h2 => f j (by omega)) s
theorem IM_hi {h told ts cap : Int} {tb cl pr sz : Int → Int} {T : Int → Int → Int} {σ σ' : ml_St} (f : ∀ j, 215 ≤ j → σ' j = σ j) (i : IM h told ts cap tb cl pr sz T σ) : IM h told ts cap tb cl pr sz T σ' := by
  obtain ⟨a, b, c, d, e⟩ := i
  refine ⟨?_, ?_, ?_, ?_, fun v v0 v1 => ?_⟩
  · unfold im_A; rw [f 215 (by omega)]; exact a
  · unfold im_B; rw [f 215 (by omega), f 216 (by omega)]; exact b
  · unfold im_C mt_jv; rw [f 215 (by omega), f 217 (by omega)]; exact c
  · unfold im_D; rw [f 220 (by omega)]; exact d
  · obtain ⟨x1, x2, x, x3, x4, x5⟩ := e v v0 v1
    refine ⟨?_, ?_, x, ?_, x4, x5⟩
    · unfold im_T; rw [f 218 (by omega), f 219 (by omega)]; exact x1
    · unfold im_N; rw [f 221 (by omega), f 222 (by omega)]; exact x2
    · unfold mt_mv; rw [f 227 (by omega), f 228 (by omega), f 229 (by omega), f 230 (by omega), f 231 (by omega)]; exact x3
theorem tc_signs {Q : Int → ml_St → Prop} {h told ts cap w : Int} {tb cl pr sz : Int → Int} {T : Int → Int → Int} {σ : ml_St} (i : IC h told ts cap tb cl pr sz T σ) (k : ∀ r σ', IC h told ts cap tb cl pr sz T σ' → (∀ j, 215 ≤ j → σ' j = σ j) → Q r σ') : f_X11_signs σ w Q := c_signs i (fun _ _ => k _ σ i (fun _ _ => rfl)) (fun _ => k _ σ i (fun _ _ => rfl))
theorem tm_signs {Q : Int → ml_St → Prop} {h told ts cap w : Int} {tb cl pr sz : Int → Int} {T : Int → Int → Int} {σ : ml_St} (i : IM h told ts cap tb cl pr sz T σ) (k : ∀ r σ', IM h told ts cap tb cl pr sz T σ' → (∀ j, j < 215 → σ' j = σ j) → Q r σ') : f_X12_signs σ w Q := m_signs i (fun _ _ => k _ σ i (fun _ _ => rfl)) (fun _ => k _ σ i (fun _ _ => rfl))
theorem tc_joined {Q : Int → ml_St → Prop} {h told ts cap w e : Int} {tb cl pr sz : Int → Int} {T : Int → Int → Int} {σ : ml_St} (i : IC h told ts cap tb cl pr sz T σ) (k : ∀ r σ', IC h told ts cap tb cl pr sz T σ' → (∀ j, 215 ≤ j → σ' j = σ j) → Q r σ') : f_X11_joined σ w e Q := c_joined i (fun _ _ _ => k _ σ i (fun _ _ => rfl)) (fun _ => k _ σ i (fun _ _ => rfl))
theorem tm_joined {Q : Int → ml_St → Prop} {h told ts cap w e : Int} {tb cl pr sz : Int → Int} {T : Int → Int → Int} {σ : ml_St} (i : IM h told ts cap tb cl pr sz T σ) (k : ∀ r σ', IM h told ts cap tb cl pr sz T σ' → (∀ j, j < 215 → σ' j = σ j) → Q r σ') : f_X12_joined σ w e Q := m_joined i (fun _ _ _ => k _ σ i (fun _ _ => rfl)) (fun _ => k _ σ i (fun _ _ => rfl))
theorem tc_length {Q : Int → ml_St → Prop} {h told ts cap w e : Int} {tb cl pr sz : Int → Int} {T : Int → Int → Int} {σ : ml_St} (i : IC h told ts cap tb cl pr sz T σ) (k : ∀ r σ', IC h told ts cap tb cl pr sz T σ' → (∀ j, 215 ≤ j → σ' j = σ j) → Q r σ') : f_X11_length σ w e Q := c_length i (fun _ _ _ => k _ σ i (fun _ _ => rfl)) (fun _ => k _ σ i (fun _ _ => rfl))
theorem tm_length {Q : Int → ml_St → Prop} {h told ts cap w e : Int} {tb cl pr sz : Int → Int} {T : Int → Int → Int} {σ : ml_St} (i : IM h told ts cap tb cl pr sz T σ) (k : ∀ r σ', IM h told ts cap tb cl pr sz T σ' → (∀ j, j < 215 → σ' j = σ j) → Q r σ') : f_X12_length σ w e Q := m_length i (fun _ _ _ => k _ σ i (fun _ _ => rfl)) (fun _ => k _ σ i (fun _ _ => rfl))
theorem tc_loops {Q : Int → ml_St → Prop} {h told ts cap w x : Int} {tb cl pr sz : Int → Int} {T : Int → Int → Int} {σ : ml_St} (i : IC h told ts cap tb cl pr sz T σ) (k : ∀ r σ', IC h told ts cap tb cl pr sz T σ' → (∀ j, 215 ≤ j → σ' j = σ j) → Q r σ') : f_X11_loops σ w x Q := c_loops i (fun _ _ _ => k _ σ i (fun _ _ => rfl)) (fun _ => k _ σ i (fun _ _ => rfl))
theorem tm_loops {Q : Int → ml_St → Prop} {h told ts cap w x : Int} {tb cl pr sz : Int → Int} {T : Int → Int → Int} {σ : ml_St} (i : IM h told ts cap tb cl pr sz T σ) (k : ∀ r σ', IM h told ts cap tb cl pr sz T σ' → (∀ j, j < 215 → σ' j = σ j) → Q r σ') : f_X12_loops σ w x Q := m_loops i (fun _ _ _ τ i' f => k _ τ i' f) (fun _ => k _ σ i (fun _ _ => rfl))
theorem tc_is {Q : Int → ml_St → Prop} {h told ts cap w x : Int} {tb cl pr sz : Int → Int} {T : Int → Int → Int} {σ : ml_St} (i : IC h told ts cap tb cl pr sz T σ) (k : ∀ r σ', IC h told ts cap tb cl pr sz T σ' → (∀ j, 215 ≤ j → σ' j = σ j) → Q r σ') : f_X11_is σ w x Q := c_is i (fun _ _ _ _ => k _ σ i (fun _ _ => rfl)) (fun _ => k _ σ i (fun _ _ => rfl))
theorem tm_is {Q : Int → ml_St → Prop} {h told ts cap w x : Int} {tb cl pr sz : Int → Int} {T : Int → Int → Int} {σ : ml_St} (i : IM h told ts cap tb cl pr sz T σ) (k : ∀ r σ', IM h told ts cap tb cl pr sz T σ' → (∀ j, j < 215 → σ' j = σ j) → Q r σ') : f_X12_is σ w x Q := m_is i (fun _ _ _ _ => k _ σ i (fun _ _ => rfl)) (fun _ => k _ σ i (fun _ _ => rfl))
theorem tc_both {Q : Int → ml_St → Prop} {h told ts cap a b x : Int} {tb cl pr sz : Int → Int} {T : Int → Int → Int} {σ : ml_St} (i : IC h told ts cap tb cl pr sz T σ) (k : ∀ r σ', IC h told ts cap tb cl pr sz T σ' → (∀ j, 215 ≤ j → σ' j = σ j) → Q r σ') : f_X11_both σ a b x Q := c_both i (fun _ _ _ _ τ i' f => k _ τ i' f) (fun _ => k _ σ i (fun _ _ => rfl))
theorem tm_both {Q : Int → ml_St → Prop} {h told ts cap a b x : Int} {tb cl pr sz : Int → Int} {T : Int → Int → Int} {σ : ml_St} (i : IM h told ts cap tb cl pr sz T σ) (k : ∀ r σ', IM h told ts cap tb cl pr sz T σ' → (∀ j, j < 215 → σ' j = σ j) → Q r σ') : f_X12_both σ a b x Q := m_both i (fun _ _ _ _ τ i' f => k _ τ i' f) (fun _ => k _ σ i (fun _ _ => rfl))
theorem tm_power {Q : Int → ml_St → Prop} {h told ts cap w x : Int} {tb cl pr sz : Int → Int} {T : Int → Int → Int} {σ : ml_St} (i : IM h told ts cap tb cl pr sz T σ) (k : ∀ r σ', IM h told ts cap tb cl pr sz T σ' → (∀ j, j < 215 → σ' j = σ j) → Q r σ') : f_X12_power σ w x Q := m_power i (fun _ _ _ τ _ _ i' f _ => k _ τ i' f) (fun _ => k _ σ i (fun _ _ => rfl))
def lw_I (σ : ml_St) : Prop := ∃ (h told ts cap : Int) (tb cl pr sz : Int → Int) (T : Int → Int → Int), IC h told ts cap tb cl pr sz T σ ∧ IM h told ts cap tb cl pr sz T σ
set_option maxHeartbeats 8000000 in
theorem lw_start : lw_I ml_S2 := by
  have e1 : ml_S2 1 11 = 4 ∧ ml_S2 1 12 = 0 ∧ ml_S2 2 1 = 0 ∧ ml_S2 4 1 = 0 ∧ ml_S2 55 0 = 0 ∧ ml_S2 215 2 = 4 ∧ ml_S2 215 3 = 0 ∧ ml_S2 215 1 = 0 ∧ ml_S2 215 4 = 0 := by decide +kernel
  have e2 : ∀ n : Nat, n < 8 → ml_S2 5 (n : Int) = mt_str 4 (n : Int) := by decide +kernel
  have e3 : ∀ n : Nat, n < 16 → ml_S2 (119 + 6 * (n : Int)) 3 = 1 ∧ ml_S2 (119 + 6 * (n : Int)) 6 = 0 ∧ ml_S2 220 (n : Int) = 1 := by decide +kernel
  have e4 : ∀ w : Int, 0 ≤ w → w < 16 → ml_S2 (119 + 6 * w) 3 = 1 ∧ ml_S2 (119 + 6 * w) 6 = 0 ∧ ml_S2 220 w = 1 := fun w w0 w1 => by
    have := e3 w.toNat (by omega)
    rw [show ((w.toNat : Nat) : Int) = w by omega] at this
    exact this
  obtain ⟨a1, a2, a3, a4, a5, a6, a7, a8, a9⟩ := e1
  generalize ml_S2 = σ at *
  have one : (1 : Int) ≤ 1 ∧ (1 : Int) ≤ 1000 := ⟨by omega, by omega⟩
  refine ⟨4, 0, 0, 0, fun _ => 0, mt_str 4, fun _ => 1, fun _ => 0, fun _ _ => 0, ⟨⟨a1, a2, by omega, by omega, by omega, by omega⟩, ⟨a3, by omega, by omega, fun i i0 i1 => absurd i1 (by omega)⟩, ⟨a4, Or.inl rfl, fun e e0 e1 => ?_, mt_str_M (by omega), fun _ _ _ _ => rfl⟩, fun w w0 w1 => ⟨(e4 w w0 w1).1, one⟩, fun w w0 w1 => absurd w1 (by omega), fun w w0 w1 => ?_, Or.inl a5⟩, ⟨⟨a6, a7, by omega, by omega, by omega, by omega⟩, ⟨a8, by omega, by omega, fun i i0 i1 => absurd i1 (by omega)⟩, ⟨a9, Or.inl rfl, fun e e0 e1 => ⟨fun z => absurd a9 z, fun _ => rfl⟩, mt_str_M (by omega)⟩, fun w w0 w1 => ⟨(e4 w w0 w1).2.2, one⟩, fun w w0 w1 => absurd w1 (by omega)⟩⟩
  · have := e2 e.toNat (by omega)
    rw [show ((e.toNat : Nat) : Int) = e by omega] at this
    exact this
  · have := (e4 w w0 w1).2.1
    exact ⟨by omega, fun z => absurd z (by omega)⟩
/-- check's answer is one -/
theorem lw_check {n r r2 : Int} {f g : Int → Int} (a : (r = -1 ∧ (∀ e, 0 ≤ e → e < n → f e = g e)) ∨ (0 ≤ r ∧ r < n ∧ f r ≠ g r ∧ (∀ e, 0 ≤ e → e < r → f e = g e))) (b : (r2 = -1 ∧ (∀ e, 0 ≤ e → e < n → f e = g e)) ∨ (0 ≤ r2 ∧ r2 < n ∧ f r2 ≠ g r2 ∧ (∀ e, 0 ≤ e → e < r2 → f e = g e))) : r = r2 := by
  rcases a with ⟨a1, a2⟩ | ⟨a1, a2, a3, a4⟩ <;> rcases b with ⟨b1, b2⟩ | ⟨b1, b2, b3, b4⟩
  · omega
  · exact absurd (a2 r2 b1 b2) b3
  · exact absurd (b2 r a1 a2) a3
  · rcases Int.lt_trichotomy r r2 with z | z | z
    · exact absurd (b4 r a1 z) a3
    · exact z
    · exact absurd (a4 r2 b1 z) b3
set_option maxHeartbeats 16000000 in
theorem lw_loop {Q : Int → Int} {L : Int} (hL : 0 ≤ L ∧ L ≤ 4096) (hQ : ∀ i, I32 (Q i)) : ∀ (N : Nat) (x : Int) (σ : ml_St), 0 ≤ x → x ≤ L → L - x < N → lw_I σ → f_L_law_u18 Q (f_L_law_u1179 Q L) (f_L_law_u1187 Q L) L N σ x := by
  intro N
  induction N with
  | zero => intro x σ x0 x1 hN; omega
  | succ N ih =>
    intro x σ x0 x1 hN hI
    unfold f_L_law_u18
    refine ⟨⟨by omega, by omega⟩, fun _ => trivial, fun c => ?_⟩
    have go : ∀ σ, lw_I σ → f_L_law_u1181 Q (f_L_law_u18 Q (f_L_law_u1179 Q L) (f_L_law_u1187 Q L) L N) L σ x := fun σ hI => by
      unfold f_L_law_u1181
      refine ⟨⟨by omega, by omega⟩, fun y e => ?_⟩
      subst e
      exact ih (x + 8) σ (by omega) (by omega) (by omega) hI
    have G : ∀ {h told ts cap : Int} {tb cl pr sz : Int → Int} {T : Int → Int → Int} {σ1 σ2 : ml_St}, IC h told ts cap tb cl pr sz T σ1 → IM h told ts cap tb cl pr sz T σ2 → (∀ j, j < 215 → σ2 j = σ1 j) → f_L_law_u1181 Q (f_L_law_u18 Q (f_L_law_u1179 Q L) (f_L_law_u1187 Q L) L N) L σ2 x := fun a b f => go _ ⟨_, _, _, _, _, _, _, _, _, IC_lo f a, b⟩
    have same : ∀ {σ : ml_St} (j : Int), j < 215 → σ j = σ j := fun _ _ => rfl
    obtain ⟨h, told, ts, cap, tb, cl, pr, sz, T, ic, im⟩ := hI
    have v : ∀ k : Int, 0 ≤ k → k ≤ 7 → I32 (x + k) ∧ 0 ≤ x + k ∧ x + k < L := fun k k0 k1 => ⟨⟨by omega, by omega⟩, by omega, by omega⟩
    refine ⟨by omega, by omega, ?_, ?_, ?_, ?_, ?_, ?_, ?_, ?_, ?_, ?_, ?_, ?_, ?_, ?_, ?_, ?_, ?_, ?_, ?_, ?_, ?_, ?_, ?_, ?_, ?_, ?_, ?_, ?_⟩
    · -- rails
      intro _
      refine ⟨(v 1 (by omega) (by omega)).1, (v 1 (by omega) (by omega)).2.1, (v 1 (by omega) (by omega)).2.2, c_rails ic (fun no _ => ?_) (fun q1 q2 q3 σ1 ic1 f1 _ => ?_)⟩
      · exact ⟨(v 1 (by omega) (by omega)).1, (v 1 (by omega) (by omega)).2.1, (v 1 (by omega) (by omega)).2.2, m_rails im (fun _ _ => G ic im same) (fun q1 q2 q3 => absurd ⟨q1, q2, q3⟩ no)⟩
      · exact ⟨(v 1 (by omega) (by omega)).1, (v 1 (by omega) (by omega)).2.1, (v 1 (by omega) (by omega)).2.2, m_rails (IM_hi f1 im) (fun no => absurd ⟨q1, q2, q3⟩ no) (fun _ _ _ σ2 im2 f2 _ => G ic1 im2 f2)⟩
    · -- feed
      intro _
      refine ⟨(v 1 (by omega) (by omega)).1, (v 1 (by omega) (by omega)).2.1, (v 1 (by omega) (by omega)).2.2, (v 2 (by omega) (by omega)).1, (v 2 (by omega) (by omega)).2.1, (v 2 (by omega) (by omega)).2.2, (v 3 (by omega) (by omega)).1, (v 3 (by omega) (by omega)).2.1, (v 3 (by omega) (by omega)).2.2, (v 4 (by omega) (by omega)).1, (v 4 (by omega) (by omega)).2.1, (v 4 (by omega) (by omega)).2.2, (v 5 (by omega) (by omega)).1, (v 5 (by omega) (by omega)).2.1, (v 5 (by omega) (by omega)).2.2, c_feed ic (fun q1 _ => ?_) (fun q1 σ1 ic1 f1 _ => ?_)⟩
      · exact ⟨(v 1 (by omega) (by omega)).1, (v 1 (by omega) (by omega)).2.1, (v 1 (by omega) (by omega)).2.2, (v 2 (by omega) (by omega)).1, (v 2 (by omega) (by omega)).2.1, (v 2 (by omega) (by omega)).2.2, (v 3 (by omega) (by omega)).1, (v 3 (by omega) (by omega)).2.1, (v 3 (by omega) (by omega)).2.2, (v 4 (by omega) (by omega)).1, (v 4 (by omega) (by omega)).2.1, (v 4 (by omega) (by omega)).2.2, (v 5 (by omega) (by omega)).1, (v 5 (by omega) (by omega)).2.1, (v 5 (by omega) (by omega)).2.2, m_feed im (fun _ _ => G ic im same) (fun q2 => absurd q1 (by omega))⟩
      · exact ⟨(v 1 (by omega) (by omega)).1, (v 1 (by omega) (by omega)).2.1, (v 1 (by omega) (by omega)).2.2, (v 2 (by omega) (by omega)).1, (v 2 (by omega) (by omega)).2.1, (v 2 (by omega) (by omega)).2.2, (v 3 (by omega) (by omega)).1, (v 3 (by omega) (by omega)).2.1, (v 3 (by omega) (by omega)).2.2, (v 4 (by omega) (by omega)).1, (v 4 (by omega) (by omega)).2.1, (v 4 (by omega) (by omega)).2.2, (v 5 (by omega) (by omega)).1, (v 5 (by omega) (by omega)).2.1, (v 5 (by omega) (by omega)).2.2, m_feed (IM_hi f1 im) (fun q2 => absurd q1 (by omega)) (fun _ σ2 im2 f2 _ => G ic1 im2 f2)⟩
    · -- word
      intro _
      refine ⟨(v 1 (by omega) (by omega)).1, (v 1 (by omega) (by omega)).2.1, (v 1 (by omega) (by omega)).2.2, c_word ic (fun no _ => ?_) (fun q0 q1 q2 q3 z σ1 ic1 f1 _ => ?_) (fun q0 q1 q2 q3 z z2 σ1 ic1 f1 _ => ?_) (fun q0 q1 q2 q3 z z2 σ1 ic1 f1 _ => ?_)⟩
      · exact ⟨(v 1 (by omega) (by omega)).1, (v 1 (by omega) (by omega)).2.1, (v 1 (by omega) (by omega)).2.2, m_word im (fun _ _ => G ic im same) (fun q0 q1 q2 q3 => absurd ⟨q0, q1, q2, q3⟩ no) (fun q0 q1 q2 q3 => absurd ⟨q0, q1, q2, q3⟩ no) (fun q0 q1 q2 q3 => absurd ⟨q0, q1, q2, q3⟩ no)⟩
      · exact ⟨(v 1 (by omega) (by omega)).1, (v 1 (by omega) (by omega)).2.1, (v 1 (by omega) (by omega)).2.2, m_word (IM_hi f1 im) (fun no => absurd ⟨q0, q1, q2, q3⟩ no) (fun _ _ _ _ _ σ2 im2 f2 _ => G ic1 im2 f2) (fun _ _ _ _ y => absurd y z) (fun _ _ _ _ y => absurd y z)⟩
      · exact ⟨(v 1 (by omega) (by omega)).1, (v 1 (by omega) (by omega)).2.1, (v 1 (by omega) (by omega)).2.2, m_word (IM_hi f1 im) (fun no => absurd ⟨q0, q1, q2, q3⟩ no) (fun _ _ _ _ y => absurd z y) (fun _ _ _ _ _ _ σ2 im2 f2 _ => G ic1 im2 f2) (fun _ _ _ _ _ y => absurd y (by omega))⟩
      · exact ⟨(v 1 (by omega) (by omega)).1, (v 1 (by omega) (by omega)).2.1, (v 1 (by omega) (by omega)).2.2, m_word (IM_hi f1 im) (fun no => absurd ⟨q0, q1, q2, q3⟩ no) (fun _ _ _ _ y => absurd z y) (fun _ _ _ _ _ y => absurd y (by omega)) (fun _ _ _ _ _ _ σ2 im2 f2 _ => G ic1 im2 f2)⟩
    · -- change
      intro _
      refine ⟨(v 1 (by omega) (by omega)).1, (v 1 (by omega) (by omega)).2.1, (v 1 (by omega) (by omega)).2.2, (v 2 (by omega) (by omega)).1, (v 2 (by omega) (by omega)).2.1, (v 2 (by omega) (by omega)).2.2, c_change ic (fun no _ => ?_) (fun q0 q1 q2 q3 q4 z σ1 ic1 f1 _ => ?_) (fun q0 q1 q2 q3 q4 z z2 σ1 ic1 f1 _ => ?_) (fun q0 q1 q2 q3 q4 z z2 σ1 ic1 f1 _ => ?_)⟩
      · exact ⟨(v 1 (by omega) (by omega)).1, (v 1 (by omega) (by omega)).2.1, (v 1 (by omega) (by omega)).2.2, (v 2 (by omega) (by omega)).1, (v 2 (by omega) (by omega)).2.1, (v 2 (by omega) (by omega)).2.2, m_change im (fun _ _ => G ic im same) (fun q0 q1 q2 q3 q4 => absurd ⟨⟨q0, q1⟩, q2, q3, q4⟩ no) (fun q0 q1 q2 q3 q4 => absurd ⟨⟨q0, q1⟩, q2, q3, q4⟩ no) (fun q0 q1 q2 q3 q4 => absurd ⟨⟨q0, q1⟩, q2, q3, q4⟩ no)⟩
      · exact ⟨(v 1 (by omega) (by omega)).1, (v 1 (by omega) (by omega)).2.1, (v 1 (by omega) (by omega)).2.2, (v 2 (by omega) (by omega)).1, (v 2 (by omega) (by omega)).2.1, (v 2 (by omega) (by omega)).2.2, m_change (IM_hi f1 im) (fun no => absurd ⟨⟨q0, q1⟩, q2, q3, q4⟩ no) (fun _ _ _ _ _ _ σ2 im2 f2 _ => G ic1 im2 f2) (fun _ _ _ _ _ y => absurd y z) (fun _ _ _ _ _ y => absurd y z)⟩
      · exact ⟨(v 1 (by omega) (by omega)).1, (v 1 (by omega) (by omega)).2.1, (v 1 (by omega) (by omega)).2.2, (v 2 (by omega) (by omega)).1, (v 2 (by omega) (by omega)).2.1, (v 2 (by omega) (by omega)).2.2, m_change (IM_hi f1 im) (fun no => absurd ⟨⟨q0, q1⟩, q2, q3, q4⟩ no) (fun _ _ _ _ _ y => absurd z y) (fun _ _ _ _ _ _ _ σ2 im2 f2 _ => G ic1 im2 f2) (fun _ _ _ _ _ _ y => absurd y (by omega))⟩
      · exact ⟨(v 1 (by omega) (by omega)).1, (v 1 (by omega) (by omega)).2.1, (v 1 (by omega) (by omega)).2.2, (v 2 (by omega) (by omega)).1, (v 2 (by omega) (by omega)).2.1, (v 2 (by omega) (by omega)).2.2, m_change (IM_hi f1 im) (fun no => absurd ⟨⟨q0, q1⟩, q2, q3, q4⟩ no) (fun _ _ _ _ _ y => absurd z y) (fun _ _ _ _ _ _ y => absurd y (by omega)) (fun _ _ _ _ _ _ _ σ2 im2 f2 _ => G ic1 im2 f2)⟩
    · -- round
      intro _
      refine c_round ic (fun σ1 ic1 f1 _ => ?_)
      · exact m_round (IM_hi f1 im) (fun σ2 im2 f2 _ => G ic1 im2 f2)
    · -- caps
      intro _
      refine c_caps ic (fun no _ => ?_) (fun q1 q2 z σ1 ic1 f1 _ => ?_) (fun q1 q2 z σ1 ic1 f1 _ => ?_)
      · exact m_caps im (fun _ _ => G ic im same) (fun q1 q2 => absurd ⟨q1, q2⟩ no) (fun q1 q2 => absurd ⟨q1, q2⟩ no)
      · exact m_caps (IM_hi f1 im) (fun no => absurd ⟨q1, q2⟩ no) (fun _ _ _ σ2 im2 f2 _ => G ic1 im2 f2) (fun _ _ y => absurd y z)
      · exact m_caps (IM_hi f1 im) (fun no => absurd ⟨q1, q2⟩ no) (fun _ _ y => absurd z y) (fun _ _ _ σ2 im2 f2 _ => G ic1 im2 f2)
    · -- signs
      intro _
      refine ⟨(v 1 (by omega) (by omega)).1, (v 1 (by omega) (by omega)).2.1, (v 1 (by omega) (by omega)).2.2, tc_signs ic (fun r σ1 ic1 f1 _ => ?_)⟩
      · exact ⟨(v 1 (by omega) (by omega)).1, (v 1 (by omega) (by omega)).2.1, (v 1 (by omega) (by omega)).2.2, tm_signs (IM_hi f1 im) (fun r2 σ2 im2 f2 _ => G ic1 im2 f2)⟩
    · -- joined
      intro _
      refine ⟨(v 1 (by omega) (by omega)).1, (v 1 (by omega) (by omega)).2.1, (v 1 (by omega) (by omega)).2.2, (v 2 (by omega) (by omega)).1, (v 2 (by omega) (by omega)).2.1, (v 2 (by omega) (by omega)).2.2, tc_joined ic (fun r σ1 ic1 f1 _ => ?_)⟩
      · exact ⟨(v 1 (by omega) (by omega)).1, (v 1 (by omega) (by omega)).2.1, (v 1 (by omega) (by omega)).2.2, (v 2 (by omega) (by omega)).1, (v 2 (by omega) (by omega)).2.1, (v 2 (by omega) (by omega)).2.2, tm_joined (IM_hi f1 im) (fun r2 σ2 im2 f2 _ => G ic1 im2 f2)⟩
    · -- length
      intro _
      refine ⟨(v 1 (by omega) (by omega)).1, (v 1 (by omega) (by omega)).2.1, (v 1 (by omega) (by omega)).2.2, (v 2 (by omega) (by omega)).1, (v 2 (by omega) (by omega)).2.1, (v 2 (by omega) (by omega)).2.2, tc_length ic (fun r σ1 ic1 f1 _ => ?_)⟩
      · exact ⟨(v 1 (by omega) (by omega)).1, (v 1 (by omega) (by omega)).2.1, (v 1 (by omega) (by omega)).2.2, (v 2 (by omega) (by omega)).1, (v 2 (by omega) (by omega)).2.1, (v 2 (by omega) (by omega)).2.2, tm_length (IM_hi f1 im) (fun r2 σ2 im2 f2 _ => G ic1 im2 f2)⟩
    · -- loops
      intro _
      refine ⟨(v 1 (by omega) (by omega)).1, (v 1 (by omega) (by omega)).2.1, (v 1 (by omega) (by omega)).2.2, (v 2 (by omega) (by omega)).1, (v 2 (by omega) (by omega)).2.1, (v 2 (by omega) (by omega)).2.2, tc_loops ic (fun r σ1 ic1 f1 _ => ?_)⟩
      · exact ⟨(v 1 (by omega) (by omega)).1, (v 1 (by omega) (by omega)).2.1, (v 1 (by omega) (by omega)).2.2, (v 2 (by omega) (by omega)).1, (v 2 (by omega) (by omega)).2.1, (v 2 (by omega) (by omega)).2.2, tm_loops (IM_hi f1 im) (fun r2 σ2 im2 f2 _ => G ic1 im2 f2)⟩
    · -- power
      intro _
      refine ⟨(v 1 (by omega) (by omega)).1, (v 1 (by omega) (by omega)).2.1, (v 1 (by omega) (by omega)).2.2, (v 2 (by omega) (by omega)).1, (v 2 (by omega) (by omega)).2.1, (v 2 (by omega) (by omega)).2.2, c_power ic (fun r σ1 ic1 f1 _ => ?_)⟩
      · exact ⟨(v 1 (by omega) (by omega)).1, (v 1 (by omega) (by omega)).2.1, (v 1 (by omega) (by omega)).2.2, (v 2 (by omega) (by omega)).1, (v 2 (by omega) (by omega)).2.1, (v 2 (by omega) (by omega)).2.2, tm_power (IM_hi f1 im) (fun r2 σ2 im2 f2 _ => G ic1 im2 f2)⟩
    · -- rule
      intro _
      refine ⟨(v 1 (by omega) (by omega)).1, (v 1 (by omega) (by omega)).2.1, (v 1 (by omega) (by omega)).2.2, (v 2 (by omega) (by omega)).1, (v 2 (by omega) (by omega)).2.1, (v 2 (by omega) (by omega)).2.2, c_rule ic (fun r σ1 ic1 f1 _ => ?_)⟩
      · exact ⟨(v 1 (by omega) (by omega)).1, (v 1 (by omega) (by omega)).2.1, (v 1 (by omega) (by omega)).2.2, (v 2 (by omega) (by omega)).1, (v 2 (by omega) (by omega)).2.1, (v 2 (by omega) (by omega)).2.2, m_rule (IM_hi f1 im) (fun r2 σ2 im2 f2 _ => G ic1 im2 f2)⟩
    · -- left
      intro _
      refine ⟨(v 1 (by omega) (by omega)).1, (v 1 (by omega) (by omega)).2.1, (v 1 (by omega) (by omega)).2.2, (v 2 (by omega) (by omega)).1, (v 2 (by omega) (by omega)).2.1, (v 2 (by omega) (by omega)).2.2, (v 3 (by omega) (by omega)).1, (v 3 (by omega) (by omega)).2.1, (v 3 (by omega) (by omega)).2.2, c_left ic (fun r σ1 ic1 f1 _ => ?_)⟩
      · exact ⟨(v 1 (by omega) (by omega)).1, (v 1 (by omega) (by omega)).2.1, (v 1 (by omega) (by omega)).2.2, (v 2 (by omega) (by omega)).1, (v 2 (by omega) (by omega)).2.1, (v 2 (by omega) (by omega)).2.2, (v 3 (by omega) (by omega)).1, (v 3 (by omega) (by omega)).2.1, (v 3 (by omega) (by omega)).2.2, m_left (IM_hi f1 im) (fun r2 σ2 im2 f2 _ => G ic1 im2 f2)⟩
    · -- those
      intro _
      refine ⟨(v 1 (by omega) (by omega)).1, (v 1 (by omega) (by omega)).2.1, (v 1 (by omega) (by omega)).2.2, (v 2 (by omega) (by omega)).1, (v 2 (by omega) (by omega)).2.1, (v 2 (by omega) (by omega)).2.2, (v 3 (by omega) (by omega)).1, (v 3 (by omega) (by omega)).2.1, (v 3 (by omega) (by omega)).2.2, (v 4 (by omega) (by omega)).1, (v 4 (by omega) (by omega)).2.1, (v 4 (by omega) (by omega)).2.2, (v 5 (by omega) (by omega)).1, (v 5 (by omega) (by omega)).2.1, (v 5 (by omega) (by omega)).2.2, (v 6 (by omega) (by omega)).1, (v 6 (by omega) (by omega)).2.1, (v 6 (by omega) (by omega)).2.2, (v 7 (by omega) (by omega)).1, (v 7 (by omega) (by omega)).2.1, (v 7 (by omega) (by omega)).2.2, c_those ic (fun r σ1 ic1 f1 _ => ?_)⟩
      · exact ⟨(v 1 (by omega) (by omega)).1, (v 1 (by omega) (by omega)).2.1, (v 1 (by omega) (by omega)).2.2, (v 2 (by omega) (by omega)).1, (v 2 (by omega) (by omega)).2.1, (v 2 (by omega) (by omega)).2.2, (v 3 (by omega) (by omega)).1, (v 3 (by omega) (by omega)).2.1, (v 3 (by omega) (by omega)).2.2, (v 4 (by omega) (by omega)).1, (v 4 (by omega) (by omega)).2.1, (v 4 (by omega) (by omega)).2.2, (v 5 (by omega) (by omega)).1, (v 5 (by omega) (by omega)).2.1, (v 5 (by omega) (by omega)).2.2, (v 6 (by omega) (by omega)).1, (v 6 (by omega) (by omega)).2.1, (v 6 (by omega) (by omega)).2.2, (v 7 (by omega) (by omega)).1, (v 7 (by omega) (by omega)).2.1, (v 7 (by omega) (by omega)).2.2, m_those (IM_hi f1 im) (fun r2 σ2 im2 f2 _ => G ic1 im2 f2)⟩
    · -- first
      intro _
      refine ⟨(v 1 (by omega) (by omega)).1, (v 1 (by omega) (by omega)).2.1, (v 1 (by omega) (by omega)).2.2, (v 2 (by omega) (by omega)).1, (v 2 (by omega) (by omega)).2.1, (v 2 (by omega) (by omega)).2.2, (v 3 (by omega) (by omega)).1, (v 3 (by omega) (by omega)).2.1, (v 3 (by omega) (by omega)).2.2, c_first ic (fun r σ1 ic1 f1 _ => ?_)⟩
      · exact ⟨(v 1 (by omega) (by omega)).1, (v 1 (by omega) (by omega)).2.1, (v 1 (by omega) (by omega)).2.2, (v 2 (by omega) (by omega)).1, (v 2 (by omega) (by omega)).2.1, (v 2 (by omega) (by omega)).2.2, (v 3 (by omega) (by omega)).1, (v 3 (by omega) (by omega)).2.1, (v 3 (by omega) (by omega)).2.2, m_first (IM_hi f1 im) (fun r2 σ2 im2 f2 _ => G ic1 im2 f2)⟩
    · -- both
      intro _
      refine ⟨(v 1 (by omega) (by omega)).1, (v 1 (by omega) (by omega)).2.1, (v 1 (by omega) (by omega)).2.2, (v 2 (by omega) (by omega)).1, (v 2 (by omega) (by omega)).2.1, (v 2 (by omega) (by omega)).2.2, (v 3 (by omega) (by omega)).1, (v 3 (by omega) (by omega)).2.1, (v 3 (by omega) (by omega)).2.2, tc_both ic (fun r σ1 ic1 f1 _ => ?_)⟩
      · exact ⟨(v 1 (by omega) (by omega)).1, (v 1 (by omega) (by omega)).2.1, (v 1 (by omega) (by omega)).2.2, (v 2 (by omega) (by omega)).1, (v 2 (by omega) (by omega)).2.1, (v 2 (by omega) (by omega)).2.2, (v 3 (by omega) (by omega)).1, (v 3 (by omega) (by omega)).2.1, (v 3 (by omega) (by omega)).2.2, tm_both (IM_hi f1 im) (fun r2 σ2 im2 f2 _ => G ic1 im2 f2)⟩
    · -- is
      intro _
      refine ⟨(v 1 (by omega) (by omega)).1, (v 1 (by omega) (by omega)).2.1, (v 1 (by omega) (by omega)).2.2, (v 2 (by omega) (by omega)).1, (v 2 (by omega) (by omega)).2.1, (v 2 (by omega) (by omega)).2.2, tc_is ic (fun r σ1 ic1 f1 _ => ?_)⟩
      · exact ⟨(v 1 (by omega) (by omega)).1, (v 1 (by omega) (by omega)).2.1, (v 1 (by omega) (by omega)).2.2, (v 2 (by omega) (by omega)).1, (v 2 (by omega) (by omega)).2.1, (v 2 (by omega) (by omega)).2.2, tm_is (IM_hi f1 im) (fun r2 σ2 im2 f2 _ => G ic1 im2 f2)⟩
    · -- many
      intro _
      refine ⟨(v 1 (by omega) (by omega)).1, (v 1 (by omega) (by omega)).2.1, (v 1 (by omega) (by omega)).2.2, (v 2 (by omega) (by omega)).1, (v 2 (by omega) (by omega)).2.1, (v 2 (by omega) (by omega)).2.2, (v 3 (by omega) (by omega)).1, (v 3 (by omega) (by omega)).2.1, (v 3 (by omega) (by omega)).2.2, c_many ic (fun no _ => ?_) (fun ls q1 q2 q3 q4 σ1 L1 P1 l1 S1 nx1 mo1 ic1 f1 C1 _ => ?_)⟩
      · exact ⟨(v 1 (by omega) (by omega)).1, (v 1 (by omega) (by omega)).2.1, (v 1 (by omega) (by omega)).2.2, (v 2 (by omega) (by omega)).1, (v 2 (by omega) (by omega)).2.1, (v 2 (by omega) (by omega)).2.2, (v 3 (by omega) (by omega)).1, (v 3 (by omega) (by omega)).2.1, (v 3 (by omega) (by omega)).2.2, m_many im (fun _ σ2 im2 f2 _ => G ic im2 f2) (fun ls q1 q2 q3 q4 => absurd ⟨ls, q1, q2, q3, q4⟩ no)⟩
      · exact ⟨(v 1 (by omega) (by omega)).1, (v 1 (by omega) (by omega)).2.1, (v 1 (by omega) (by omega)).2.2, (v 2 (by omega) (by omega)).1, (v 2 (by omega) (by omega)).2.1, (v 2 (by omega) (by omega)).2.2, (v 3 (by omega) (by omega)).1, (v 3 (by omega) (by omega)).2.1, (v 3 (by omega) (by omega)).2.2, m_many (IM_hi f1 im) (fun no => absurd ⟨ls, q1, q2, q3, q4⟩ no) (fun _ _ _ _ _ σ2 L2 l2 F2 c2 nx2 e2 im2 f2 M2 E2 _ => G ic1 im2 f2)⟩
    · -- made
      intro _
      refine ⟨(v 1 (by omega) (by omega)).1, (v 1 (by omega) (by omega)).2.1, (v 1 (by omega) (by omega)).2.2, c_made ic (fun no _ => ?_) (fun ls σ1 L1 P1 l1 S1 nx1 mo1 ic1 f1 C1 _ => ?_)⟩
      · exact ⟨(v 1 (by omega) (by omega)).1, (v 1 (by omega) (by omega)).2.1, (v 1 (by omega) (by omega)).2.2, m_made im (fun _ σ2 im2 f2 _ => G ic im2 f2) (fun ls => absurd ls no)⟩
      · exact ⟨(v 1 (by omega) (by omega)).1, (v 1 (by omega) (by omega)).2.1, (v 1 (by omega) (by omega)).2.2, m_made (IM_hi f1 im) (fun no => absurd ls no) (fun _ σ2 L2 l2 F2 c2 nx2 im2 f2 M2 _ => G ic1 im2 f2)⟩
    · -- shortest
      intro _
      refine ⟨(v 1 (by omega) (by omega)).1, (v 1 (by omega) (by omega)).2.1, (v 1 (by omega) (by omega)).2.2, (v 2 (by omega) (by omega)).1, (v 2 (by omega) (by omega)).2.1, (v 2 (by omega) (by omega)).2.2, (v 3 (by omega) (by omega)).1, (v 3 (by omega) (by omega)).2.1, (v 3 (by omega) (by omega)).2.2, c_shortest ic (fun no _ => ?_) (fun ls q1 q2 q3 σ1 L1 P1 l1 S1 nx1 mo1 ic1 f1 C1 zn1 no1 _ => ?_) (fun ls q1 q2 q3 σ1 L1 P1 l1 S1 nx1 mo1 m1 V1 ic1 f1 C1 zn1 mm1 _ => ?_)⟩
      · exact ⟨(v 1 (by omega) (by omega)).1, (v 1 (by omega) (by omega)).2.1, (v 1 (by omega) (by omega)).2.2, (v 2 (by omega) (by omega)).1, (v 2 (by omega) (by omega)).2.1, (v 2 (by omega) (by omega)).2.2, (v 3 (by omega) (by omega)).1, (v 3 (by omega) (by omega)).2.1, (v 3 (by omega) (by omega)).2.2, m_shortest im (fun _ σ2 im2 f2 _ => G ic im2 f2) (fun ls q1 q2 q3 => absurd ⟨ls, q1, q2, q3⟩ no) (fun ls q1 q2 q3 => absurd ⟨ls, q1, q2, q3⟩ no)⟩
      · exact ⟨(v 1 (by omega) (by omega)).1, (v 1 (by omega) (by omega)).2.1, (v 1 (by omega) (by omega)).2.2, (v 2 (by omega) (by omega)).1, (v 2 (by omega) (by omega)).2.1, (v 2 (by omega) (by omega)).2.2, (v 3 (by omega) (by omega)).1, (v 3 (by omega) (by omega)).2.1, (v 3 (by omega) (by omega)).2.2, m_shortest (IM_hi f1 im) (fun no => absurd ⟨ls, q1, q2, q3⟩ no) (fun _ _ _ _ σ2 L2 l2 F2 c2 nx2 im2 f2 M2 no2 _ => G ic1 im2 f2) (fun _ _ _ _ σ2 L2 l2 F2 c2 nx2 m2 V2 im2 f2 M2 mm2 _ => G ic1 im2 f2)⟩
      · exact ⟨(v 1 (by omega) (by omega)).1, (v 1 (by omega) (by omega)).2.1, (v 1 (by omega) (by omega)).2.2, (v 2 (by omega) (by omega)).1, (v 2 (by omega) (by omega)).2.1, (v 2 (by omega) (by omega)).2.2, (v 3 (by omega) (by omega)).1, (v 3 (by omega) (by omega)).2.1, (v 3 (by omega) (by omega)).2.2, m_shortest (IM_hi f1 im) (fun no => absurd ⟨ls, q1, q2, q3⟩ no) (fun _ _ _ _ σ2 L2 l2 F2 c2 nx2 im2 f2 M2 no2 _ => G ic1 im2 f2) (fun _ _ _ _ σ2 L2 l2 F2 c2 nx2 m2 V2 im2 f2 M2 mm2 _ => G ic1 im2 f2)⟩
    · -- cost
      intro _
      refine ⟨(v 1 (by omega) (by omega)).1, (v 1 (by omega) (by omega)).2.1, (v 1 (by omega) (by omega)).2.2, (v 2 (by omega) (by omega)).1, (v 2 (by omega) (by omega)).2.1, (v 2 (by omega) (by omega)).2.2, c_cost ic (fun no _ => ?_) (fun q1 q2 q3 q4 σ1 ic1 f1 _ => ?_)⟩
      · exact ⟨(v 1 (by omega) (by omega)).1, (v 1 (by omega) (by omega)).2.1, (v 1 (by omega) (by omega)).2.2, (v 2 (by omega) (by omega)).1, (v 2 (by omega) (by omega)).2.1, (v 2 (by omega) (by omega)).2.2, m_cost im (fun _ _ => G ic im same) (fun q1 q2 q3 q4 => absurd ⟨⟨q1, q2⟩, q3, q4⟩ no)⟩
      · exact ⟨(v 1 (by omega) (by omega)).1, (v 1 (by omega) (by omega)).2.1, (v 1 (by omega) (by omega)).2.2, (v 2 (by omega) (by omega)).1, (v 2 (by omega) (by omega)).2.1, (v 2 (by omega) (by omega)).2.2, m_cost (IM_hi f1 im) (fun no => absurd ⟨⟨q1, q2⟩, q3, q4⟩ no) (fun _ _ _ _ σ2 im2 f2 _ => G ic1 im2 f2)⟩
    · -- cheapest
      intro _
      refine ⟨(v 1 (by omega) (by omega)).1, (v 1 (by omega) (by omega)).2.1, (v 1 (by omega) (by omega)).2.2, (v 2 (by omega) (by omega)).1, (v 2 (by omega) (by omega)).2.1, (v 2 (by omega) (by omega)).2.2, (v 3 (by omega) (by omega)).1, (v 3 (by omega) (by omega)).2.1, (v 3 (by omega) (by omega)).2.2, c_cheapest ic (fun no _ => ?_) (fun ls q1 q2 σ1 L1 P1 l1 S1 nx1 mo1 ic1 f1 C1 no1 _ => ?_) (fun ls q1 q2 σ1 L1 P1 l1 S1 nx1 mo1 t1 W1 n1 E1 ic1 f1 C1 t01 t11 et1 w1 z1 _ => ?_)⟩
      · exact ⟨(v 1 (by omega) (by omega)).1, (v 1 (by omega) (by omega)).2.1, (v 1 (by omega) (by omega)).2.2, (v 2 (by omega) (by omega)).1, (v 2 (by omega) (by omega)).2.1, (v 2 (by omega) (by omega)).2.2, (v 3 (by omega) (by omega)).1, (v 3 (by omega) (by omega)).2.1, (v 3 (by omega) (by omega)).2.2, m_cheapest im (fun _ σ2 im2 f2 _ => G ic im2 f2) (fun ls q1 q2 => absurd ⟨ls, q1, q2⟩ no) (fun ls q1 q2 => absurd ⟨ls, q1, q2⟩ no)⟩
      · exact ⟨(v 1 (by omega) (by omega)).1, (v 1 (by omega) (by omega)).2.1, (v 1 (by omega) (by omega)).2.2, (v 2 (by omega) (by omega)).1, (v 2 (by omega) (by omega)).2.1, (v 2 (by omega) (by omega)).2.2, (v 3 (by omega) (by omega)).1, (v 3 (by omega) (by omega)).2.1, (v 3 (by omega) (by omega)).2.2, m_cheapest (IM_hi f1 im) (fun no => absurd ⟨ls, q1, q2⟩ no) (fun _ _ _ σ2 L2 l2 F2 c2 nx2 im2 f2 M2 no2 _ => G ic1 im2 f2) (fun _ _ _ σ2 L2 l2 F2 c2 nx2 t2 W2 R2 im2 f2 M2 s0 s1 es2 w2 g2 rf _ => G ic1 im2 f2)⟩
      · exact ⟨(v 1 (by omega) (by omega)).1, (v 1 (by omega) (by omega)).2.1, (v 1 (by omega) (by omega)).2.2, (v 2 (by omega) (by omega)).1, (v 2 (by omega) (by omega)).2.1, (v 2 (by omega) (by omega)).2.2, (v 3 (by omega) (by omega)).1, (v 3 (by omega) (by omega)).2.1, (v 3 (by omega) (by omega)).2.2, m_cheapest (IM_hi f1 im) (fun no => absurd ⟨ls, q1, q2⟩ no) (fun _ _ _ σ2 L2 l2 F2 c2 nx2 im2 f2 M2 no2 _ => G ic1 im2 f2) (fun _ _ _ σ2 L2 l2 F2 c2 nx2 t2 W2 R2 im2 f2 M2 s0 s1 es2 w2 g2 rf _ => G ic1 im2 f2)⟩
    · -- mend
      intro _
      refine ⟨(v 1 (by omega) (by omega)).1, (v 1 (by omega) (by omega)).2.1, (v 1 (by omega) (by omega)).2.2, c_mend ic (fun r σ1 ic1 f1 _ => ?_)⟩
      · exact ⟨(v 1 (by omega) (by omega)).1, (v 1 (by omega) (by omega)).2.1, (v 1 (by omega) (by omega)).2.2, m_mend (IM_hi f1 im) (fun r2 σ2 im2 f2 _ => G ic1 im2 f2)⟩
    · -- back
      intro _
      refine ⟨(v 1 (by omega) (by omega)).1, (v 1 (by omega) (by omega)).2.1, (v 1 (by omega) (by omega)).2.2, c_back ic (fun no _ => ?_) (fun q1 q2 q3 r σ1 ic1 f1 _ => ?_)⟩
      · exact ⟨(v 1 (by omega) (by omega)).1, (v 1 (by omega) (by omega)).2.1, (v 1 (by omega) (by omega)).2.2, m_back im (fun _ _ => G ic im same) (fun q1 q2 q3 => absurd ⟨q1, q2, q3⟩ no)⟩
      · exact ⟨(v 1 (by omega) (by omega)).1, (v 1 (by omega) (by omega)).2.1, (v 1 (by omega) (by omega)).2.2, m_back (IM_hi f1 im) (fun no => absurd ⟨q1, q2, q3⟩ no) (fun _ _ _ r2 σ2 im2 f2 _ => G ic1 im2 f2)⟩
    · -- walk
      intro _
      refine ⟨(v 1 (by omega) (by omega)).1, (v 1 (by omega) (by omega)).2.1, (v 1 (by omega) (by omega)).2.2, (v 2 (by omega) (by omega)).1, (v 2 (by omega) (by omega)).2.1, (v 2 (by omega) (by omega)).2.2, (v 3 (by omega) (by omega)).1, (v 3 (by omega) (by omega)).2.1, (v 3 (by omega) (by omega)).2.2, c_walk ic (fun q0 σ1 ic1 f1 _ => ?_) (fun no _ => ?_)⟩
      · exact ⟨(v 1 (by omega) (by omega)).1, (v 1 (by omega) (by omega)).2.1, (v 1 (by omega) (by omega)).2.2, (v 2 (by omega) (by omega)).1, (v 2 (by omega) (by omega)).2.1, (v 2 (by omega) (by omega)).2.2, (v 3 (by omega) (by omega)).1, (v 3 (by omega) (by omega)).2.1, (v 3 (by omega) (by omega)).2.2, m_walk (IM_hi f1 im) (fun _ σ2 im2 f2 _ => G ic1 im2 f2) (fun no => absurd q0 no)⟩
      · exact ⟨(v 1 (by omega) (by omega)).1, (v 1 (by omega) (by omega)).2.1, (v 1 (by omega) (by omega)).2.2, (v 2 (by omega) (by omega)).1, (v 2 (by omega) (by omega)).2.1, (v 2 (by omega) (by omega)).2.2, (v 3 (by omega) (by omega)).1, (v 3 (by omega) (by omega)).2.1, (v 3 (by omega) (by omega)).2.2, m_walk im (fun q0 => absurd q0 no) (fun _ _ => G ic im same)⟩
    · -- check
      intro _
      refine ⟨(v 1 (by omega) (by omega)).1, (v 1 (by omega) (by omega)).2.1, (v 1 (by omega) (by omega)).2.2, c_check ic (fun no _ => ?_) (fun q1 q2 r hr σ1 ic1 f1 _ => ?_)⟩
      · exact ⟨(v 1 (by omega) (by omega)).1, (v 1 (by omega) (by omega)).2.1, (v 1 (by omega) (by omega)).2.2, m_check im (fun _ _ => G ic im same) (fun q1 q2 => absurd ⟨q1, q2⟩ no)⟩
      · exact ⟨(v 1 (by omega) (by omega)).1, (v 1 (by omega) (by omega)).2.1, (v 1 (by omega) (by omega)).2.2, m_check (IM_hi f1 im) (fun no => absurd ⟨q1, q2⟩ no) (fun _ _ r2 hr2 σ2 im2 f2 _ => G ic1 im2 f2)⟩
    · -- count
      intro _
      refine ⟨(v 1 (by omega) (by omega)).1, (v 1 (by omega) (by omega)).2.1, (v 1 (by omega) (by omega)).2.2, c_count (hQ _) ic (fun _ => ?_)⟩
      · exact ⟨(v 1 (by omega) (by omega)).1, (v 1 (by omega) (by omega)).2.1, (v 1 (by omega) (by omega)).2.2, m_count (hQ _) im (fun _ => ⟨fun _ => G ic im same, fun z => absurd rfl z⟩)⟩
    · intro _
      exact G ic im same
theorem lw_law {Q : Int → Int} {L : Int} (hL : 0 ≤ L ∧ L ≤ 4096) (hQ : ∀ i, I32 (Q i)) : f_L_law_u0 Q L ml_S0 := by
  unfold f_L_law_u0
  exact s_both ⟨ml_RO2, 4097, lw_loop hL hQ 4097 0 ml_S2 (by omega) (by omega) (by omega) lw_start⟩
