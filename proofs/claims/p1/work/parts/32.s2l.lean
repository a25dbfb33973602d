theorem p1_cont {Q : Int → Int} {L : Int} (hL : L = 8) (σ : ml_St) : f_L_law_u1188 Q (f_L_law_u18 Q (f_L_law_u177 Q L) (f_L_law_u240 Q L) (f_L_law_u263 Q L) (f_L_law_u296 Q L) (f_L_law_u309 Q L) (f_L_law_u322 Q L) (f_L_law_u346 Q L) (f_L_law_u379 Q L) (f_L_law_u413 Q L) (f_L_law_u447 Q L) (f_L_law_u480 Q L) (f_L_law_u514 Q L) (f_L_law_u578 Q L) (f_L_law_u726 Q L) (f_L_law_u790 Q L) (f_L_law_u833 Q L) (f_L_law_u866 Q L) (f_L_law_u909 Q L) (f_L_law_u932 Q L) (f_L_law_u975 Q L) (f_L_law_u1008 Q L) (f_L_law_u1051 Q L) (f_L_law_u1074 Q L) (f_L_law_u1097 Q L) (f_L_law_u1140 Q L) (f_L_law_u1163 Q L) (f_L_law_u1186 Q L) (f_L_law_u1194 Q L) L 1) L σ 0 := by
  unfold f_L_law_u1188
  refine ⟨⟨by omega, by omega⟩, fun y ey => ?_⟩
  subst ey
  unfold f_L_law_u18
  exact ⟨⟨by omega, by omega⟩, fun _ => trivial, fun c => absurd c (by omega)⟩
theorem p1_Mk {σ σ' : ml_St} (h : p1_M σ) (hk : ∀ k j, 215 ≤ k → σ' k j = σ k j) : p1_M σ' := by
  unfold p1_M
  rw [hk 215 3 (by omega), hk 215 2 (by omega), hk 215 1 (by omega), hk 215 4 (by omega)]
  exact h
set_option maxHeartbeats 4000000 in
theorem p1_law {Q : Int → Int} {L : Int} (hL : 0 ≤ L ∧ L ≤ 8) (hQ : ∀ i, I32 (Q i)) : f_L_law_u0 Q L ml_S0 := by
  unfold f_L_law_u0
  refine s_both ⟨ml_RO2, 2, ?_⟩
  have hF : p1_F ml_S2 := ⟨by decide +kernel, by decide +kernel, by decide +kernel, by decide +kernel⟩
  have hM : p1_M ml_S2 := ⟨by decide +kernel, by decide +kernel, by decide +kernel, by decide +kernel⟩
  generalize ml_S2 = σ at hF hM ⊢
  have go := @p1_cont Q L
  unfold f_L_law_u18
  refine ⟨⟨by omega, by omega⟩, fun _ => trivial, fun c => ?_⟩
  have hL8 : L = 8 := by omega
  have go := go hL8
  refine ⟨by omega, by omega, ?_, ?_, ?_, ?_, ?_, ?_, ?_, ?_, ?_, ?_, ?_, ?_, ?_, ?_, ?_, ?_, ?_, ?_, ?_, ?_, ?_, ?_, ?_, ?_, ?_, ?_, ?_, ?_⟩
  · intro e1
    repeat (refine ⟨by first | exact ⟨by omega, by omega⟩ | omega, ?_⟩)
    refine p1_X11_rails hF (fun c1 σ1 h1 => ?_) (fun c1 => ?_)
    · intro _
      refine ⟨⟨by omega, by omega⟩, by omega, by omega, ?_⟩
      refine p1_X12_rails (p1_Mk hM h1) (fun _ σ2 => ?_) (fun c2 => absurd c1 c2)
      intro _
      exact ⟨fun _ => go _, fun c => absurd rfl c⟩
    · intro _
      refine ⟨⟨by omega, by omega⟩, by omega, by omega, ?_⟩
      refine p1_X12_rails hM (fun c2 => absurd c2 c1) (fun _ σ2 => ?_)
      intro _
      exact ⟨fun _ => go _, fun c => absurd rfl c⟩
  · intro e1
    repeat (refine ⟨by first | exact ⟨by omega, by omega⟩ | omega, ?_⟩)
    refine p1_X11_feed hF (fun σ1 h1 => ?_)
    intro _
    repeat (refine ⟨by first | exact ⟨by omega, by omega⟩ | omega, ?_⟩)
    refine p1_X12_feed (p1_Mk hM h1) (fun σ2 => ?_)
    intro _
    exact ⟨fun _ => go _, fun c => absurd rfl c⟩
  · intro e1
    repeat (refine ⟨by first | exact ⟨by omega, by omega⟩ | omega, ?_⟩)
    refine p1_X11_word hF ?_
    intro _
    repeat (refine ⟨by first | exact ⟨by omega, by omega⟩ | omega, ?_⟩)
    refine p1_X12_word hM ?_
    intro _
    exact ⟨fun _ => go _, fun c => absurd rfl c⟩
  · intro e1
    repeat (refine ⟨by first | exact ⟨by omega, by omega⟩ | omega, ?_⟩)
    refine p1_X11_change hF ?_
    intro _
    repeat (refine ⟨by first | exact ⟨by omega, by omega⟩ | omega, ?_⟩)
    refine p1_X12_change hM ?_
    intro _
    exact ⟨fun _ => go _, fun c => absurd rfl c⟩
  · intro e1
    repeat (refine ⟨by first | exact ⟨by omega, by omega⟩ | omega, ?_⟩)
    refine p1_X11_round hF (fun σ1 h1 => ?_)
    intro _
    repeat (refine ⟨by first | exact ⟨by omega, by omega⟩ | omega, ?_⟩)
    refine p1_X12_round (fun σ2 => ?_)
    intro _
    exact ⟨fun _ => go _, fun c => absurd rfl c⟩
  · intro e1
    repeat (refine ⟨by first | exact ⟨by omega, by omega⟩ | omega, ?_⟩)
    refine p1_X11_caps hF ?_
    intro _
    repeat (refine ⟨by first | exact ⟨by omega, by omega⟩ | omega, ?_⟩)
    refine p1_X12_caps hM ?_
    intro _
    exact ⟨fun _ => go _, fun c => absurd rfl c⟩
  · intro e1
    repeat (refine ⟨by first | exact ⟨by omega, by omega⟩ | omega, ?_⟩)
    refine p1_X11_signs hF ?_
    intro _
    repeat (refine ⟨by first | exact ⟨by omega, by omega⟩ | omega, ?_⟩)
    refine p1_X12_signs hM ?_
    intro _
    exact ⟨fun _ => go _, fun c => absurd rfl c⟩
  · intro e1
    repeat (refine ⟨by first | exact ⟨by omega, by omega⟩ | omega, ?_⟩)
    refine p1_X11_joined hF ?_
    intro _
    repeat (refine ⟨by first | exact ⟨by omega, by omega⟩ | omega, ?_⟩)
    refine p1_X12_joined hM ?_
    intro _
    exact ⟨fun _ => go _, fun c => absurd rfl c⟩
  · intro e1
    repeat (refine ⟨by first | exact ⟨by omega, by omega⟩ | omega, ?_⟩)
    refine p1_X11_length hF ?_
    intro _
    repeat (refine ⟨by first | exact ⟨by omega, by omega⟩ | omega, ?_⟩)
    refine p1_X12_length hM ?_
    intro _
    exact ⟨fun _ => go _, fun c => absurd rfl c⟩
  · intro e1
    repeat (refine ⟨by first | exact ⟨by omega, by omega⟩ | omega, ?_⟩)
    refine p1_X11_loops hF ?_
    intro _
    repeat (refine ⟨by first | exact ⟨by omega, by omega⟩ | omega, ?_⟩)
    refine p1_X12_loops hM ?_
    intro _
    exact ⟨fun _ => go _, fun c => absurd rfl c⟩
  · intro e1
    repeat (refine ⟨by first | exact ⟨by omega, by omega⟩ | omega, ?_⟩)
    refine p1_X11_power hF ?_
    intro _
    repeat (refine ⟨by first | exact ⟨by omega, by omega⟩ | omega, ?_⟩)
    refine p1_X12_power hM ?_
    intro _
    exact ⟨fun _ => go _, fun c => absurd rfl c⟩
  · intro e1
    repeat (refine ⟨by first | exact ⟨by omega, by omega⟩ | omega, ?_⟩)
    refine p1_X11_rule hF ?_
    intro _
    repeat (refine ⟨by first | exact ⟨by omega, by omega⟩ | omega, ?_⟩)
    refine p1_X12_rule hM ?_
    intro _
    exact ⟨fun _ => go _, fun c => absurd rfl c⟩
  · intro e1
    repeat (refine ⟨by first | exact ⟨by omega, by omega⟩ | omega, ?_⟩)
    refine p1_X11_left hF ?_
    intro _
    repeat (refine ⟨by first | exact ⟨by omega, by omega⟩ | omega, ?_⟩)
    refine p1_X12_left hM ?_
    intro _
    exact ⟨fun _ => go _, fun c => absurd rfl c⟩
  · intro e1
    repeat (refine ⟨by first | exact ⟨by omega, by omega⟩ | omega, ?_⟩)
    refine p1_X11_those hF ?_
    intro _
    repeat (refine ⟨by first | exact ⟨by omega, by omega⟩ | omega, ?_⟩)
    refine p1_X12_those hM ?_
    intro _
    exact ⟨fun _ => go _, fun c => absurd rfl c⟩
  · intro e1
    repeat (refine ⟨by first | exact ⟨by omega, by omega⟩ | omega, ?_⟩)
    refine p1_X11_first hF ?_
    intro _
    repeat (refine ⟨by first | exact ⟨by omega, by omega⟩ | omega, ?_⟩)
    refine p1_X12_first hM ?_
    intro _
    exact ⟨fun _ => go _, fun c => absurd rfl c⟩
  · intro e1
    repeat (refine ⟨by first | exact ⟨by omega, by omega⟩ | omega, ?_⟩)
    refine p1_X11_both hF ?_
    intro _
    repeat (refine ⟨by first | exact ⟨by omega, by omega⟩ | omega, ?_⟩)
    refine p1_X12_both hM ?_
    intro _
    exact ⟨fun _ => go _, fun c => absurd rfl c⟩
  · intro e1
    repeat (refine ⟨by first | exact ⟨by omega, by omega⟩ | omega, ?_⟩)
    refine p1_X11_is hF ?_
    intro _
    repeat (refine ⟨by first | exact ⟨by omega, by omega⟩ | omega, ?_⟩)
    refine p1_X12_is hM ?_
    intro _
    exact ⟨fun _ => go _, fun c => absurd rfl c⟩
  · intro e1
    repeat (refine ⟨by first | exact ⟨by omega, by omega⟩ | omega, ?_⟩)
    refine p1_X11_many hF ?_
    intro _
    repeat (refine ⟨by first | exact ⟨by omega, by omega⟩ | omega, ?_⟩)
    refine p1_X12_many hM ?_
    intro _
    exact ⟨fun _ => go _, fun c => absurd rfl c⟩
  · intro e1
    repeat (refine ⟨by first | exact ⟨by omega, by omega⟩ | omega, ?_⟩)
    refine p1_X11_made hF ?_
    intro _
    repeat (refine ⟨by first | exact ⟨by omega, by omega⟩ | omega, ?_⟩)
    refine p1_X12_made hM ?_
    intro _
    exact ⟨fun _ => go _, fun c => absurd rfl c⟩
  · intro e1
    repeat (refine ⟨by first | exact ⟨by omega, by omega⟩ | omega, ?_⟩)
    refine p1_X11_shortest hF ?_
    intro _
    repeat (refine ⟨by first | exact ⟨by omega, by omega⟩ | omega, ?_⟩)
    refine p1_X12_shortest hM ?_
    intro _
    exact ⟨fun _ => go _, fun c => absurd rfl c⟩
  · intro e1
    repeat (refine ⟨by first | exact ⟨by omega, by omega⟩ | omega, ?_⟩)
    refine p1_X11_cost hF ?_
    intro _
    repeat (refine ⟨by first | exact ⟨by omega, by omega⟩ | omega, ?_⟩)
    refine p1_X12_cost hM ?_
    intro _
    exact ⟨fun _ => go _, fun c => absurd rfl c⟩
  · intro e1
    repeat (refine ⟨by first | exact ⟨by omega, by omega⟩ | omega, ?_⟩)
    refine p1_X11_cheapest hF ?_
    intro _
    repeat (refine ⟨by first | exact ⟨by omega, by omega⟩ | omega, ?_⟩)
    refine p1_X12_cheapest hM ?_
    intro _
    exact ⟨fun _ => go _, fun c => absurd rfl c⟩
  · intro e1
    repeat (refine ⟨by first | exact ⟨by omega, by omega⟩ | omega, ?_⟩)
    refine p1_X11_mend hF ?_
    intro _
    repeat (refine ⟨by first | exact ⟨by omega, by omega⟩ | omega, ?_⟩)
    refine p1_X12_mend hM ?_
    intro _
    exact ⟨fun _ => go _, fun c => absurd rfl c⟩
  · intro e1
    repeat (refine ⟨by first | exact ⟨by omega, by omega⟩ | omega, ?_⟩)
    refine p1_X11_back hF (hQ _) ?_
    intro _
    repeat (refine ⟨by first | exact ⟨by omega, by omega⟩ | omega, ?_⟩)
    refine p1_X12_back hM (hQ _) ?_
    intro _
    exact ⟨fun _ => go _, fun c => absurd rfl c⟩
  · intro e1
    repeat (refine ⟨by first | exact ⟨by omega, by omega⟩ | omega, ?_⟩)
    refine p1_X11_walk hF ?_
    intro _
    repeat (refine ⟨by first | exact ⟨by omega, by omega⟩ | omega, ?_⟩)
    refine p1_X12_walk hM ?_
    intro _
    exact ⟨fun _ => go _, fun c => absurd rfl c⟩
  · intro e1
    repeat (refine ⟨by first | exact ⟨by omega, by omega⟩ | omega, ?_⟩)
    refine p1_X11_check hF ?_
    intro _
    repeat (refine ⟨by first | exact ⟨by omega, by omega⟩ | omega, ?_⟩)
    refine p1_X12_check hM ?_
    intro _
    exact ⟨fun _ => go _, fun c => absurd rfl c⟩
  · intro e1
    repeat (refine ⟨by first | exact ⟨by omega, by omega⟩ | omega, ?_⟩)
    refine p1_X11_count hF (hQ _) ?_
    intro _
    repeat (refine ⟨by first | exact ⟨by omega, by omega⟩ | omega, ?_⟩)
    refine p1_X12_count hM ?_
    intro _
    exact ⟨fun _ => go _, fun c => absurd rfl c⟩
  · intro _
    exact go _
