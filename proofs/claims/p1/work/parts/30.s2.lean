/-! STAGE 2: what the functions f_.. do, as whole numbers -/
def ml_rv (h j : Int) : Int := if j < h then j + h else j - h
def ml_rI (σ : ml_St) (h i : Int) : ml_St := fun k j => if k = 5 ∧ i ≤ j ∧ j < 2 * h then ml_rv h j else σ k j
def ml_round (σ : ml_St) (h : Int) : ml_St := ml_up (ml_rI σ h 0) 4 1 0
theorem ml_rI_step (σ : ml_St) (h i : Int) (h1 : i < 2 * h) : ml_rI (ml_up σ 5 i (ml_rv h i)) h (i + 1) = ml_rI σ h i := by
  funext k j
  unfold ml_rI ml_up
  by_cases hk : k = 5
  · subst hk
    by_cases hj : j = i
    · subst hj
      rw [if_neg (by omega), if_pos ⟨rfl, rfl⟩, if_pos (by omega)]
    · by_cases h2 : i + 1 ≤ j ∧ j < 2 * h
      · rw [if_pos ⟨rfl, h2⟩, if_pos ⟨rfl, by omega, h2.2⟩]
      · rw [if_neg (by omega), if_neg (by omega), if_neg (by omega)]
  · rw [if_neg (fun q => hk q.1), if_neg (fun q => hk q.1), if_neg (fun q => hk q.1)]
theorem s_goRound_L {Q : ml_St → Prop} {K : ml_St → Prop} {h : Int} (h0 : 0 ≤ h) (h5 : h ≤ 5) : ∀ (N : Nat) (σ : ml_St) (i : Int), 0 ≤ i → i ≤ 2 * h → 2 * h - i < N → K (ml_rI σ h i) → f_X0_goRound_u2 Q K N σ h i := by
  intro N
  induction N with
  | zero => intro σ i a b c; exact absurd c (by omega)
  | succ N ih =>
    intro σ i a b c q
    unfold f_X0_goRound_u2
    refine ⟨⟨by omega, by omega⟩, fun e => ?_, fun e => ?_⟩
    · have e2 : ml_rI σ h i = σ := by
        funext k j
        unfold ml_rI
        rw [if_neg (by omega)]
      rw [e2] at q
      exact q
    · have go : ∀ v : Int, v = ml_rv h i → f_X0_goRound_u28 Q (f_X0_goRound_u2 Q K N) σ h i i v := by
        intro v hv
        unfold f_X0_goRound_u28
        refine ⟨by omega, by omega, fun σ1 e1 => ⟨⟨by omega, by omega⟩, fun y ey => ?_⟩⟩
        subst e1; subst ey; subst hv
        exact ih _ _ (by omega) (by omega) (by omega) (by rw [ml_rI_step σ h i (by omega)]; exact q)
      refine ⟨fun e2 => ⟨⟨by omega, by omega⟩, go _ ?_⟩, fun e2 => ⟨⟨by omega, by omega⟩, go _ ?_⟩⟩
      · unfold ml_rv; rw [if_neg (by omega)]
      · unfold ml_rv; rw [if_pos (by omega)]
theorem s_goRound {Q : ml_St → Prop} {h : Int} {σ : ml_St} (h0 : 0 ≤ h) (h5 : h ≤ 5) (q : Q (ml_round σ h)) : f_X0_goRound σ h Q := by
  unfold f_X0_goRound f_X0_goRound_u0
  refine ⟨(2 * h).toNat + 1, s_goRound_L h0 h5 _ σ 0 (by omega) (by omega) (by omega) ?_⟩
  unfold f_X0_goRound_u35
  intro σ1 e1
  subst e1
  exact q
theorem ml_round_k {σ : ml_St} {h k j : Int} (h4 : k ≠ 4) (h5 : k ≠ 5) : ml_round σ h k j = σ k j := by
  unfold ml_round
  rw [ml_up_k h4]
  unfold ml_rI
  rw [if_neg (fun q => h5 q.1)]
/-! p1: one call on a fresh object -/
def p1_F (σ : ml_St) : Prop := σ 1 12 = 0 ∧ σ 1 11 = 4 ∧ σ 2 1 = 0 ∧ σ 4 1 = 0
def p1_M (σ : ml_St) : Prop := σ 215 3 = 0 ∧ σ 215 2 = 4 ∧ σ 215 1 = 0 ∧ σ 215 4 = 0
section P1
variable {σ : ml_St} {Q : Int → ml_St → Prop} {a b c d e x y z : Int}
theorem p1_isTold (h : p1_F σ) (q : Q 0 σ) : f_X11_isTold σ x Q := by
  unfold f_X11_isTold f_X11_isTold_u0 f_X11_isTold_u16 f_X11_isTold_u17
  exact ⟨fun _ => q, fun _ _ => ⟨fun _ => q, fun c => absurd c (by rw [h.1]; omega)⟩⟩
theorem p1_isMade (h : p1_F σ) (q : Q 0 σ) : f_X11_isMade σ x Q := by
  unfold f_X11_isMade f_X11_isMade_u0 f_X11_isMade_u27 f_X11_isMade_u28
  exact p1_isTold h (fun _ => ⟨fun _ => q, fun c => absurd rfl c⟩)
theorem p1_lies (q1 : (y ≤ x ∧ x ≤ z) → Q 1 σ) (q0 : ¬ (y ≤ x ∧ x ≤ z) → Q 0 σ) : f_X12_lies σ x y z Q := by
  unfold f_X12_lies f_X12_lies_u0 f_X12_lies_u17 f_X12_lies_u18
  exact ⟨fun _ => q0 (by omega), fun _ => ⟨fun _ => q0 (by omega), fun _ => q1 (by omega)⟩⟩
theorem p1_isWord (h : p1_M σ) (q : Q 0 σ) : f_X12_isWord σ x Q := by
  unfold f_X12_isWord f_X12_isWord_u0
  refine fun _ => ⟨⟨by rw [h.1]; decide, by rw [h.1]; decide⟩, p1_lies (fun c => absurd c (by rw [h.1]; omega)) (fun _ _ => q)⟩
theorem p1_isMadeM (h : p1_M σ) (q : Q 0 σ) : f_X12_isMade σ x Q := by
  unfold f_X12_isMade f_X12_isMade_u0
  exact p1_isWord h (fun _ => ⟨fun _ => q, fun c => absurd rfl c⟩)

theorem p1_X11_signs (h : p1_F σ) (q : Q (-1) σ) : f_X11_signs σ x Q := by
  unfold f_X11_signs f_X11_signs_u0
  exact p1_isTold h (fun _ => ⟨fun _ => q, fun c => absurd rfl c⟩)
theorem p1_X11_mend (h : p1_F σ) (q : Q (-1) σ) : f_X11_mend σ x Q := by
  unfold f_X11_mend f_X11_mend_u0
  exact p1_isTold h (fun _ => ⟨fun _ => q, fun c => absurd rfl c⟩)
theorem p1_X11_walk (h : p1_F σ) (q : Q (-1) σ) : f_X11_walk σ x y z Q := by
  unfold f_X11_walk f_X11_walk_u0
  exact p1_isTold h (fun _ => ⟨fun _ => q, fun c => absurd rfl c⟩)
theorem p1_X11_cost (h : p1_F σ) (q : Q 0 σ) : f_X11_cost σ x y Q := by
  unfold f_X11_cost f_X11_cost_u0
  exact p1_isTold h (fun _ => ⟨fun _ => q, fun c => absurd rfl c⟩)
theorem p1_X11_is (h : p1_F σ) (q : Q (-1) σ) : f_X11_is σ x y Q := by
  unfold f_X11_is f_X11_is_u0
  exact p1_isTold h (fun _ => ⟨fun c => absurd rfl c, fun _ => q⟩)
theorem p1_X11_change (h : p1_F σ) (q : Q (-1) σ) : f_X11_change σ x y Q := by
  unfold f_X11_change f_X11_change_u0
  exact p1_isTold h (fun _ => ⟨fun c => absurd rfl c, fun _ => q⟩)
theorem p1_X11_joined (h : p1_F σ) (q : Q (-1) σ) : f_X11_joined σ x y Q := by
  unfold f_X11_joined f_X11_joined_u0
  exact p1_isMade h (fun _ => ⟨fun _ => q, fun c => absurd rfl c⟩)
theorem p1_X11_length (h : p1_F σ) (q : Q (-1) σ) : f_X11_length σ x y Q := by
  unfold f_X11_length f_X11_length_u0
  exact p1_isMade h (fun _ => ⟨fun _ => q, fun c => absurd rfl c⟩)
theorem p1_X11_power (h : p1_F σ) (q : Q (-1) σ) : f_X11_power σ x y Q := by
  unfold f_X11_power f_X11_power_u0
  exact p1_isMade h (fun _ => ⟨fun _ => q, fun c => absurd rfl c⟩)
theorem p1_X11_rule (h : p1_F σ) (q : Q (-1) σ) : f_X11_rule σ x y Q := by
  unfold f_X11_rule f_X11_rule_u0
  exact p1_isMade h (fun _ => ⟨fun _ => q, fun c => absurd rfl c⟩)
theorem p1_X11_left (h : p1_F σ) (q : Q (-1) σ) : f_X11_left σ x y Q := by
  unfold f_X11_left f_X11_left_u0
  exact p1_isMade h (fun _ => ⟨fun _ => q, fun c => absurd rfl c⟩)
theorem p1_X11_those (h : p1_F σ) (q : Q (-1) σ) : f_X11_those σ x y z d Q := by
  unfold f_X11_those f_X11_those_u0
  exact p1_isMade h (fun _ => ⟨fun _ => q, fun c => absurd rfl c⟩)
theorem p1_X11_first (h : p1_F σ) (q : Q (-1) σ) : f_X11_first σ x y Q := by
  unfold f_X11_first f_X11_first_u0
  exact p1_isMade h (fun _ => ⟨fun _ => q, fun c => absurd rfl c⟩)
theorem p1_X11_both (h : p1_F σ) (q : Q (-1) σ) : f_X11_both σ x y z Q := by
  unfold f_X11_both f_X11_both_u0
  exact p1_isMade h (fun _ => ⟨fun _ => q, fun c => absurd rfl c⟩)
theorem p1_X11_cheapest (h : p1_F σ) (q : Q (-1) σ) : f_X11_cheapest σ x y z Q := by
  unfold f_X11_cheapest f_X11_cheapest_u0
  exact p1_isMade h (fun _ => ⟨fun _ => q, fun c => absurd rfl c⟩)
theorem p1_X11_check (h : p1_F σ) (q : Q (-2) σ) : f_X11_check σ x Q := by
  unfold f_X11_check f_X11_check_u0
  exact p1_isMade h (fun _ => ⟨fun _ => q, fun c => absurd rfl c⟩)
theorem p1_X11_loops (h : p1_F σ) (q : Q (-1) σ) : f_X11_loops σ x y Q := by
  unfold f_X11_loops f_X11_loops_u0
  exact p1_isMade h (fun _ => ⟨fun c => absurd rfl c, fun _ => q⟩)
theorem p1_X12_signs (h : p1_M σ) (q : Q (-1) σ) : f_X12_signs σ x Q := by
  unfold f_X12_signs f_X12_signs_u0
  exact p1_isWord h (fun _ => ⟨fun _ => q, fun c => absurd rfl c⟩)
theorem p1_X12_mend (h : p1_M σ) (q : Q (-1) σ) : f_X12_mend σ x Q := by
  unfold f_X12_mend f_X12_mend_u0
  exact p1_isWord h (fun _ => ⟨fun _ => q, fun c => absurd rfl c⟩)
theorem p1_X12_walk (h : p1_M σ) (q : Q (-1) σ) : f_X12_walk σ x y z Q := by
  unfold f_X12_walk f_X12_walk_u0
  exact p1_isWord h (fun _ => ⟨fun _ => q, fun c => absurd rfl c⟩)
theorem p1_X12_cost (h : p1_M σ) (q : Q 0 σ) : f_X12_cost σ x y Q := by
  unfold f_X12_cost f_X12_cost_u0
  exact p1_isWord h (fun _ => ⟨fun _ => q, fun c => absurd rfl c⟩)
theorem p1_X12_change (h : p1_M σ) (q : Q (-1) σ) : f_X12_change σ x y Q := by
  unfold f_X12_change f_X12_change_u0
  exact p1_isWord h (fun _ => ⟨fun _ => q, fun c => absurd rfl c⟩)
theorem p1_X12_is (h : p1_M σ) (q : Q (-1) σ) : f_X12_is σ x y Q := by
  unfold f_X12_is f_X12_is_u0
  exact p1_isWord h (fun _ => ⟨fun _ => q, fun c => absurd rfl c⟩)
theorem p1_X12_joined (h : p1_M σ) (q : Q (-1) σ) : f_X12_joined σ x y Q := by
  unfold f_X12_joined f_X12_joined_u0
  exact p1_isMadeM h (fun _ => ⟨fun _ => q, fun c => absurd rfl c⟩)
theorem p1_X12_length (h : p1_M σ) (q : Q (-1) σ) : f_X12_length σ x y Q := by
  unfold f_X12_length f_X12_length_u0
  exact p1_isMadeM h (fun _ => ⟨fun _ => q, fun c => absurd rfl c⟩)
theorem p1_X12_power (h : p1_M σ) (q : Q (-1) σ) : f_X12_power σ x y Q := by
  unfold f_X12_power f_X12_power_u0
  exact p1_isMadeM h (fun _ => ⟨fun _ => q, fun c => absurd rfl c⟩)
theorem p1_X12_rule (h : p1_M σ) (q : Q (-1) σ) : f_X12_rule σ x y Q := by
  unfold f_X12_rule f_X12_rule_u0
  exact p1_isMadeM h (fun _ => ⟨fun _ => q, fun c => absurd rfl c⟩)
theorem p1_X12_left (h : p1_M σ) (q : Q (-1) σ) : f_X12_left σ x y Q := by
  unfold f_X12_left f_X12_left_u0
  exact p1_isMadeM h (fun _ => ⟨fun _ => q, fun c => absurd rfl c⟩)
theorem p1_X12_those (h : p1_M σ) (q : Q (-1) σ) : f_X12_those σ x y z d Q := by
  unfold f_X12_those f_X12_those_u0
  exact p1_isMadeM h (fun _ => ⟨fun _ => q, fun c => absurd rfl c⟩)
theorem p1_X12_first (h : p1_M σ) (q : Q (-1) σ) : f_X12_first σ x y Q := by
  unfold f_X12_first f_X12_first_u0
  exact p1_isMadeM h (fun _ => ⟨fun _ => q, fun c => absurd rfl c⟩)
theorem p1_X12_both (h : p1_M σ) (q : Q (-1) σ) : f_X12_both σ x y z Q := by
  unfold f_X12_both f_X12_both_u0
  exact p1_isMadeM h (fun _ => ⟨fun _ => q, fun c => absurd rfl c⟩)
theorem p1_X12_check (h : p1_M σ) (q : Q (-2) σ) : f_X12_check σ x Q := by
  unfold f_X12_check f_X12_check_u0
  exact p1_isMadeM h (fun _ => ⟨fun _ => q, fun c => absurd rfl c⟩)
theorem p1_X12_loops (h : p1_M σ) (q : Q (-1) σ) : f_X12_loops σ x y Q := by
  unfold f_X12_loops f_X12_loops_u0
  exact p1_isMadeM h (fun _ => ⟨fun c => absurd rfl c, fun _ => q⟩)
theorem p1_shl0 : b_shl 1 0 = 1 := by decide +kernel
theorem p1_open (h : p1_F σ) (q : Q 0 σ) : f_X11_openLetters σ x Q := by
  unfold f_X11_openLetters f_X11_openLetters_u0
  refine ⟨fun _ => q, fun c => fun _ => ⟨fun _ => q, fun c2 => absurd c2 ?_⟩⟩
  rw [h.1, p1_shl0]; omega
theorem p1_isLetters (h : p1_M σ) (q : Q 0 σ) : f_X12_isLetters σ x Q := by
  unfold f_X12_isLetters f_X12_isLetters_u0
  rw [h.1, p1_shl0]
  exact fun _ => ⟨⟨by decide, by decide⟩, p1_lies (fun c => absurd c (by omega)) (fun _ _ => ⟨fun c => absurd rfl c, fun _ => q⟩)⟩
theorem p1_X11_many (h : p1_F σ) (q : Q (-1) σ) : f_X11_many σ x y z Q := by
  unfold f_X11_many f_X11_many_u0
  refine ⟨fun _ => q, fun _ => ⟨fun _ => q, fun _ => ⟨fun _ => q, fun _ => ⟨fun _ => q, fun _ => p1_open h (fun _ => ?_)⟩⟩⟩⟩
  first | exact ⟨fun _ => q, fun c => absurd rfl c⟩ | exact ⟨fun c => absurd rfl c, fun _ => q⟩
theorem p1_X11_made (h : p1_F σ) (q : Q (-1) σ) : f_X11_made σ x Q := by
  unfold f_X11_made f_X11_made_u0
  exact p1_open h (fun _ => ⟨fun _ => q, fun c => absurd rfl c⟩)
theorem p1_X11_shortest (h : p1_F σ) (q : Q (-1) σ) : f_X11_shortest σ x y z Q := by
  unfold f_X11_shortest f_X11_shortest_u0
  exact ⟨fun _ => q, fun _ => ⟨fun _ => q, fun _ => ⟨fun _ => q, fun _ => p1_open h (fun _ => ⟨fun c => absurd rfl c, fun _ => q⟩)⟩⟩⟩
theorem p1_X12_many (h : p1_M σ) (q : Q (-1) σ) : f_X12_many σ x y z Q := by
  unfold f_X12_many f_X12_many_u0
  exact p1_isLetters h (fun _ => ⟨fun _ => q, fun c => absurd rfl c⟩)
theorem p1_X12_shortest (h : p1_M σ) (q : Q (-1) σ) : f_X12_shortest σ x y z Q := by
  unfold f_X12_shortest f_X12_shortest_u0
  exact p1_isLetters h (fun _ => ⟨fun _ => q, fun c => absurd rfl c⟩)
theorem p1_X12_cheapest (h : p1_M σ) (q : Q (-1) σ) : f_X12_cheapest σ x y z Q := by
  unfold f_X12_cheapest f_X12_cheapest_u0
  exact p1_isLetters h (fun _ => ⟨fun _ => q, fun c => absurd rfl c⟩)
theorem p1_X12_made (h : p1_M σ) (q : Q (-1) σ) : f_X12_made σ x Q := by
  unfold f_X12_made f_X12_made_u0
  exact p1_isLetters h (fun _ => ⟨fun c => absurd rfl c, fun _ => q⟩)
theorem p1_X11_word (h : p1_F σ) (q : Q (-1) σ) : f_X11_word σ x Q := by
  unfold f_X11_word f_X11_word_u0
  intro _
  refine ⟨fun _ _ => ?_, fun c => absurd c (by rw [h.1]; omega)⟩
  unfold f_X11_tell f_X11_tell_u0
  refine ⟨fun _ => fun _ => q, fun c => ⟨fun _ => fun _ => q, fun _ _ => ⟨fun c2 => absurd c2 ?_, fun _ _ => q⟩⟩⟩
  rw [h.2.2.1]; omega
theorem p1_isLength (h : p1_M σ) (q : Q 0 σ) : f_X12_isLength σ x Q := by
  unfold f_X12_isLength f_X12_isLength_u0
  refine p1_lies (fun c _ => ⟨fun e => absurd e (by decide), fun _ _ => ⟨fun _ => q, fun e => absurd e ?_⟩⟩) (fun _ _ => ⟨fun _ => q, fun c => absurd rfl c⟩)
  rw [h.2.2.1]; omega
theorem p1_X12_word (h : p1_M σ) (q : Q (-1) σ) : f_X12_word σ x Q := by
  unfold f_X12_word f_X12_word_u0
  exact fun _ => ⟨fun c => absurd c (by rw [h.1]; omega), fun _ => p1_isLength h (fun _ => ⟨fun c => absurd rfl c, fun _ => q⟩)⟩
theorem p1_X11_caps (h : p1_F σ) (q : Q 0 σ) : f_X11_caps σ Q := by
  unfold f_X11_caps f_X11_caps_u0
  rw [h.2.1, h.2.2.1]
  exact fun _ => ⟨by decide, ⟨by decide, by decide⟩, fun _ => q, fun _ _ _ => ⟨⟨by decide, by decide⟩, fun c => absurd c (by decide), fun _ => q⟩⟩
theorem p1_X12_caps (h : p1_M σ) (q : Q 0 σ) : f_X12_caps σ Q := by
  unfold f_X12_caps f_X12_caps_u0
  rw [h.2.1, h.2.2.1]
  exact fun _ => ⟨by decide, ⟨by decide, by decide⟩, fun c => absurd c (by decide), fun _ _ _ => ⟨⟨by decide, by decide⟩, fun c => absurd c (by decide), fun _ => q⟩⟩
theorem p1_X11_back (h : p1_F σ) (hx : I32 x) (q : Q (-1) σ) : f_X11_back σ x Q := by
  unfold f_X11_back f_X11_back_u0
  refine ⟨fun _ => q, fun _ => ⟨fun _ => q, fun _ _ => ⟨⟨by omega, by omega⟩, fun c => absurd c ?_, fun _ => q⟩⟩⟩
  rw [h.2.2.1]; omega
theorem p1_X12_back (h : p1_M σ) (hx : I32 x) (q : Q (-1) σ) : f_X12_back σ x Q := by
  unfold f_X12_back f_X12_back_u0
  refine p1_lies (fun c _ => ?_) (fun _ _ => ?_)
  · rw [h.2.2.1]
    first
      | exact ⟨fun e => absurd e (by decide), fun _ => ⟨⟨by omega, by omega⟩, fun _ => ⟨fun _ => q, fun e => absurd e (by omega)⟩⟩⟩
      | exact ⟨fun e => absurd e (by decide), fun _ => ⟨⟨by omega, by omega⟩, fun _ => ⟨fun e => absurd e (by omega), fun _ => q⟩⟩⟩
      | exact ⟨fun e => absurd e (by decide), fun _ _ => ⟨⟨by omega, by omega⟩, fun e => absurd e (by omega), fun _ => q⟩⟩
      | exact ⟨fun e => absurd e (by decide), fun _ _ => ⟨⟨by omega, by omega⟩, fun _ => q, fun e => absurd e (by omega)⟩⟩
  · first | exact ⟨fun _ => q, fun c => absurd rfl c⟩ | exact ⟨fun c => absurd rfl c, fun _ => q⟩
theorem p1_X11_rails (h : p1_F σ) (q1 : (2 ≤ x ∧ x ≤ 5) → ∀ σ' : ml_St, (∀ k j, 215 ≤ k → σ' k j = σ k j) → Q 1 σ') (q0 : ¬ (2 ≤ x ∧ x ≤ 5) → Q 0 σ) : f_X11_rails σ x Q := by
  unfold f_X11_rails f_X11_rails_u0
  refine ⟨fun _ => q0 (by omega), fun _ => ⟨fun _ => q0 (by omega), fun _ _ => ⟨fun _ σ5 e5 => s_goRound (by omega) (by omega) (q1 (by omega) _ (fun k j hk => ?_)), fun c => absurd c ?_⟩⟩⟩
  · subst e5
    rw [ml_round_k (by omega) (by omega), ml_up_k (by omega)]
  · rw [h.1]; omega
theorem p1_X12_rails (h : p1_M σ) (q1 : (2 ≤ x ∧ x ≤ 5) → ∀ σ' : ml_St, Q 1 σ') (q0 : ¬ (2 ≤ x ∧ x ≤ 5) → ∀ σ' : ml_St, Q 0 σ') : f_X12_rails σ x Q := by
  unfold f_X12_rails f_X12_rails_u0
  refine p1_lies (fun c _ => ⟨fun e => absurd e (by decide), fun _ _ => ⟨fun _ σ5 _ σ6 _ => q1 c _, fun e => absurd e ?_⟩⟩) (fun c _ => ⟨fun _ => q0 c _, fun c => absurd rfl c⟩)
  rw [h.1]; omega
theorem p1_X11_round (h : p1_F σ) (q : ∀ σ' : ml_St, (∀ k j, 215 ≤ k → σ' k j = σ k j) → Q 1 σ') : f_X11_round σ Q := by
  unfold f_X11_round f_X11_round_u0
  rw [h.2.1]
  refine fun _ => s_goRound (by omega) (by omega) (q _ (fun k j hk => ml_round_k (by omega) (by omega)))
theorem p1_add {Q : ml_St → Prop} (s : Int) (h0 : 0 ≤ s) (hs : s ≤ 196) (h : σ 2 1 = s) (q : ∀ σ' : ml_St, σ' 2 1 = s + 4 → (∀ k j, 215 ≤ k → σ' k j = σ k j) → Q σ') : f_X8_add σ x Q := by
  unfold f_X8_add f_X8_add_u0
  have L : ∀ (N : Nat) (τ : ml_St) (i t : Int), 0 ≤ i → i ≤ 4 → i < N → τ 2 1 = s + 4 - i → t = 8 * i - 8 → (∀ k j, 215 ≤ k → τ k j = σ k j) → f_X8_add_u3 Q (f_X8_add_u49 Q) N τ x t := by
    intro N
    induction N with
    | zero => intro τ i t a b c; exact absurd c (by omega)
    | succ N ih =>
      intro τ i t a b c e f g
      unfold f_X8_add_u3
      refine ⟨fun e2 => ?_, fun e2 _ => ⟨fun e3 => absurd e3 (by omega), fun _ _ => ⟨by omega, by omega, fun σ5 e5 => ?_⟩⟩⟩
      · have hi : i = 0 := by omega
        exact q τ (by rw [e, hi]; omega) g
      · subst e5
        have k1 : ml_up τ 3 (τ 2 1) (b_and (b_shr x t) 255) 2 1 = τ 2 1 := by unfold ml_up; rw [if_neg (by omega)]
        intro _
        rw [k1]
        refine ⟨⟨by omega, by omega⟩, fun σ8 e8 => ⟨⟨by omega, by omega⟩, fun y9 e9 => ih σ8 (i - 1) y9 (by omega) (by omega) (by omega) ?_ (by omega) (fun k j hk => ?_)⟩⟩
        · rw [e8, ml_up_same, e]; omega
        · rw [e8, ml_up_k (by omega), ml_up_k (by omega)]; exact g k j hk
  exact ⟨5, L 5 σ 4 24 (by omega) (by omega) (by omega) (by omega) (by omega) (fun _ _ _ => rfl)⟩
theorem p1_X11_feed (h : p1_F σ) (q : ∀ σ' : ml_St, (∀ k j, 215 ≤ k → σ' k j = σ k j) → Q 20 σ') : f_X11_feed σ a b c d e Q := by
  unfold f_X11_feed f_X11_feed_u0
  intro _
  refine ⟨⟨by rw [h.2.2.1]; decide, by rw [h.2.2.1]; decide⟩, fun _ => ?_, fun c => absurd c (by rw [h.2.2.1]; decide)⟩
  refine p1_add 0 (by omega) (by omega) h.2.2.1 fun σ1 e1 g1 => p1_add 4 (by omega) (by omega) e1 fun σ2 e2 g2 => p1_add 8 (by omega) (by omega) e2 fun σ3 e3 g3 => p1_add 12 (by omega) (by omega) e3 fun σ4 e4 g4 => p1_add 16 (by omega) (by omega) e4 fun σ5 e5 g5 => fun _ => ?_
  rw [e5]
  exact q σ5 (fun k j hk => by rw [g5 k j hk, g4 k j hk, g3 k j hk, g2 k j hk, g1 k j hk])
theorem p1_push {Q : ml_St → Prop} (s : Int) (h0 : 0 ≤ s) (hs : s ≤ 196) (h : σ 215 1 = s) (q : ∀ σ' : ml_St, σ' 215 1 = s + 4 → Q σ') : f_X12_push σ x Q := by
  unfold f_X12_push f_X12_push_u0
  have L : ∀ (N : Nat) (τ : ml_St) (i t : Int), 0 ≤ i → i ≤ 4 → i < N → τ 215 1 = s + 4 - i → t = 8 * i - 8 → f_X12_push_u3 Q (f_X12_push_u36 Q) N τ x t := by
    intro N
    induction N with
    | zero => intro τ i t a b c; exact absurd c (by omega)
    | succ N ih =>
      intro τ i t a b c e f
      unfold f_X12_push_u3
      refine ⟨fun e2 => ?_, fun e2 _ => ⟨by omega, by omega, fun σ5 e5 => ?_⟩⟩
      · have hi : i = 0 := by omega
        exact q τ (by rw [e, hi]; omega)
      · subst e5
        have k1 : ml_up τ 216 (τ 215 1) (b_i2b (b_shr x t)) 215 1 = τ 215 1 := by unfold ml_up; rw [if_neg (by omega)]
        intro _
        rw [k1]
        refine ⟨⟨by omega, by omega⟩, fun σ8 e8 => ⟨⟨by omega, by omega⟩, fun y9 e9 => ih σ8 (i - 1) y9 (by omega) (by omega) (by omega) ?_ (by omega)⟩⟩
        rw [e8, ml_up_same, e]; omega
  exact ⟨5, L 5 σ 4 24 (by omega) (by omega) (by omega) (by omega) (by omega)⟩
theorem p1_X12_feed (h : p1_M σ) (q : ∀ σ' : ml_St, Q 20 σ') : f_X12_feed σ a b c d e Q := by
  unfold f_X12_feed f_X12_feed_u0
  intro _
  refine ⟨⟨by rw [h.2.2.1]; decide, by rw [h.2.2.1]; decide⟩, ?_⟩
  have g : f_X12_push σ a (fun σ4 => f_X12_push σ4 b (fun σ5 => f_X12_push σ5 c (fun σ6 => f_X12_push σ6 d (fun σ7 => f_X12_push σ7 e (fun σ8 => ∀ _ : I32 (σ8 215 1), Q (σ8 215 1) σ8))))) := by
    refine p1_push 0 (by omega) (by omega) h.2.2.1 fun σ1 e1 => p1_push 4 (by omega) (by omega) e1 fun σ2 e2 => p1_push 8 (by omega) (by omega) e2 fun σ3 e3 => p1_push 12 (by omega) (by omega) e3 fun σ4 e4 => p1_push 16 (by omega) (by omega) e4 fun σ5 e5 => fun _ => ?_
    rw [e5]
    exact q σ5
  first
    | exact ⟨fun _ => g, fun c => absurd c (by rw [h.2.2.1]; decide)⟩
    | exact ⟨fun c => absurd c (by rw [h.2.2.1]; decide), fun _ => g⟩
theorem p1_X12_round (q : ∀ σ' : ml_St, Q 1 σ') : f_X12_round σ Q := by
  unfold f_X12_round f_X12_round_u0
  exact fun σ1 _ => q σ1
def p1_cnt (x : Int) : Int := if x = 0 then 4 else if x = 1 ∨ x = 2 ∨ x = 3 then 0 else -1
theorem p1_X11_count (h : p1_F σ) (hx : I32 x) (q : Q (p1_cnt x) σ) : f_X11_count σ x Q := by
  unfold f_X11_count f_X11_count_u0
  rw [h.1, h.2.1, h.2.2.1, h.2.2.2]
  have t : (x < 0 ∨ 3 < x) → f_X11_count_u96 Q σ x := fun c => by
    unfold f_X11_count_u96
    have q' : Q (-1) σ := by
      rw [show p1_cnt x = -1 from by unfold p1_cnt; rw [if_neg (by omega), if_neg (by omega)]] at q
      exact q
    exact ⟨fun _ => q', fun _ => ⟨⟨by have := hx.1; omega, by have := hx.2; omega⟩, p1_isTold h (fun _ => ⟨fun _ => q', fun c => absurd rfl c⟩)⟩⟩
  refine ⟨fun c _ => by subst c; exact q, fun c _ => by subst c; exact q, fun c _ => by subst c; exact q, fun c _ => by subst c; exact ⟨fun _ => q, fun c => absurd rfl c⟩, fun c => ?_⟩
  have q2 := t c
  first
    | exact ⟨fun _ => q2, fun _ => ⟨⟨by have := hx.1; omega, by have := hx.2; omega⟩, p1_isTold h (fun _ => ⟨fun _ => q2, fun c => absurd rfl c⟩)⟩⟩
    | exact ⟨fun _ => q2, fun _ => ⟨⟨by have := hx.1; omega, by have := hx.2; omega⟩, p1_isTold h (fun _ => ⟨fun c => absurd rfl c, fun _ => q2⟩)⟩⟩
theorem p1_X12_count (h : p1_M σ) (q : Q (p1_cnt x) σ) : f_X12_count σ x Q := by
  unfold f_X12_count f_X12_count_u0
  refine fun _ => ⟨by rw [h.1]; exact ⟨by decide, by decide⟩, p1_lies (fun c => absurd c (by rw [h.1]; omega)) (fun _ _ => ⟨fun _ _ => ⟨by rw [h.1]; exact ⟨by decide, by decide⟩, p1_lies (fun c => absurd c (by rw [h.1]; omega)) (fun _ _ => ⟨fun _ => ?_, fun c => absurd rfl c⟩)⟩, fun c => absurd rfl c⟩)⟩
  refine ⟨fun c0 => ⟨fun c1 => ⟨fun c2 => ⟨fun c3 => ?_, fun c => ?_⟩, fun c => ?_⟩, fun c => ?_⟩, fun c => ?_⟩
  rotate_left
  · subst c; exact fun _ => ⟨fun _ => q, fun c => absurd h.2.2.2 c⟩
  · subst c; intro _; show Q (σ 215 1) σ; rw [h.2.2.1]; exact q
  · subst c; intro _; show Q (σ 215 3) σ; rw [h.1]; exact q
  · subst c; intro _; show Q (σ 215 2) σ; rw [h.2.1]; exact q
  rw [show p1_cnt x = -1 from by unfold p1_cnt; rw [if_neg (by omega), if_neg (by omega)]] at q
  exact q
end P1
