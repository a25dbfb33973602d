/-! STAGE 2: what the functions f_.. do, as whole numbers -/
def ml_rv (h j : Int) : Int := if j < h then j + h else j - h
def ml_rI (σ : ml_St) (h i : Int) : ml_St := fun k j => if k = 5 ∧ i ≤ j ∧ j < 2 * h then ml_rv h j else σ k j
def ml_round (σ : ml_St) (h : Int) : ml_St := ml_up (ml_rI σ h 0) 4 1 0
theorem ml_rI_step (σ : ml_St) (h i : Int) (h1 : i < 2 * h) : ml_rI (ml_up σ 5 i (ml_rv h i)) h (i + 1) = ml_rI σ h i := by
  funext k j
  unfold ml_rI ml_up
  by_cases hk : k = 5
  · subst hk
    by_cases hj : j = i
    · subst hj
      rw [if_neg (by omega), if_pos ⟨rfl, rfl⟩, if_pos (by omega)]
    · by_cases h2 : i + 1 ≤ j ∧ j < 2 * h
      · rw [if_pos ⟨rfl, h2⟩, if_pos ⟨rfl, by omega, h2.2⟩]
      · rw [if_neg (by omega), if_neg (by omega), if_neg (by omega)]
  · rw [if_neg (fun q => hk q.1), if_neg (fun q => hk q.1), if_neg (fun q => hk q.1)]
theorem s_goRound_L {Q : ml_St → Prop} {K : ml_St → Prop} {h : Int} (h0 : 0 ≤ h) (h5 : h ≤ 5) : ∀ (N : Nat) (σ : ml_St) (i : Int), 0 ≤ i → i ≤ 2 * h → 2 * h - i < N → K (ml_rI σ h i) → f_X0_goRound_u2 Q K N σ h i := by
  intro N
  induction N with
  | zero => intro σ i a b c; exact absurd c (by omega)
  | succ N ih =>
    intro σ i a b c q
    unfold f_X0_goRound_u2
    refine ⟨⟨by omega, by omega⟩, fun e => ?_, fun e => ?_⟩
    · have e2 : ml_rI σ h i = σ := by
        funext k j
        unfold ml_rI
        rw [if_neg (by omega)]
      rw [e2] at q
      exact q
    · have go : ∀ v : Int, v = ml_rv h i → f_X0_goRound_u28 Q (f_X0_goRound_u2 Q K N) σ h i i v := by
        intro v hv
        unfold f_X0_goRound_u28
        refine ⟨by omega, by omega, fun σ1 e1 => ⟨⟨by omega, by omega⟩, fun y ey => ?_⟩⟩
        subst e1; subst ey; subst hv
        exact ih _ _ (by omega) (by omega) (by omega) (by rw [ml_rI_step σ h i (by omega)]; exact q)
      refine ⟨fun e2 => ⟨⟨by omega, by omega⟩, go _ ?_⟩, fun e2 => ⟨⟨by omega, by omega⟩, go _ ?_⟩⟩
      · unfold ml_rv; rw [if_neg (by omega)]
      · unfold ml_rv; rw [if_pos (by omega)]
theorem s_goRound {Q : ml_St → Prop} {h : Int} {σ : ml_St} (h0 : 0 ≤ h) (h5 : h ≤ 5) (q : Q (ml_round σ h)) : f_X0_goRound σ h Q := by
  unfold f_X0_goRound f_X0_goRound_u0
  refine ⟨(2 * h).toNat + 1, s_goRound_L h0 h5 _ σ 0 (by omega) (by omega) (by omega) ?_⟩
  unfold f_X0_goRound_u35
  intro σ1 e1
  subst e1
  exact q
theorem ml_round_k {σ : ml_St} {h k j : Int} (h4 : k ≠ 4) (h5 : k ≠ 5) : ml_round σ h k j = σ k j := by
  unfold ml_round
  rw [ml_up_k h4]
  unfold ml_rI
  rw [if_neg (fun q => h5 q.1)]
def w_X8 (σ : ml_St) : ml_St := (ml_up (ml_up σ 2 0 3) 2 1 0)
set_option maxRecDepth 100000 in
set_option maxHeartbeats 4000000 in
theorem s_X8_init {σ : ml_St} {Q : ml_St → Prop} (z1 : ∀ j : Int, σ 3 j = 0) (q : Q (w_X8 σ)) : f_X8_init σ Q := by
  unfold f_X8_init
  refine ⟨fun j => z1 j, ?_⟩
  intro σ1 e1; subst e1
  intro σ1 e1; subst e1
  exact q
def w_X0 (σ : ml_St) : ml_St := (ml_up (ml_up σ 4 0 5) 4 1 0)
set_option maxRecDepth 100000 in
set_option maxHeartbeats 4000000 in
theorem s_X0_init {σ : ml_St} {Q : ml_St → Prop} (z1 : ∀ j : Int, σ 5 j = 0) (q : Q (w_X0 σ)) : f_X0_init σ Q := by
  unfold f_X0_init
  refine ⟨fun j => z1 j, ?_⟩
  intro σ1 e1; subst e1
  intro σ1 e1; subst e1
  exact q
def w_X2 (σ : ml_St) : ml_St := (ml_up (ml_up (ml_up (ml_up (ml_up (ml_up (ml_up σ 6 0 7) 6 1 0) 6 2 0) 6 3 0) 6 4 0) 6 5 1) 6 6 0)
set_option maxRecDepth 100000 in
set_option maxHeartbeats 4000000 in
theorem s_X2_init {σ : ml_St} {Q : ml_St → Prop} (z1 : ∀ j : Int, σ 7 j = 0) (q : Q (w_X2 σ)) : f_X2_init σ Q := by
  unfold f_X2_init
  refine ⟨fun j => z1 j, ?_⟩
  intro σ1 e1; subst e1
  intro σ1 e1; subst e1
  intro σ1 e1; subst e1
  intro σ1 e1; subst e1
  intro σ1 e1; subst e1
  intro σ1 e1; subst e1
  intro σ1 e1; subst e1
  exact q
def w_X3 (σ : ml_St) : ml_St := (ml_up (ml_up (ml_up (ml_up (ml_up (ml_up σ 9 0 10) 9 1 0) 9 2 0) 9 3 0) 9 4 0) 9 5 1)
set_option maxRecDepth 100000 in
set_option maxHeartbeats 4000000 in
theorem s_X3_init {σ : ml_St} {Q : ml_St → Prop} (z1 : ∀ j : Int, σ 10 j = 0) (q : Q (w_X3 σ)) : f_X3_init σ Q := by
  unfold f_X3_init
  refine ⟨fun j => z1 j, ?_⟩
  intro σ1 e1; subst e1
  intro σ1 e1; subst e1
  intro σ1 e1; subst e1
  intro σ1 e1; subst e1
  intro σ1 e1; subst e1
  intro σ1 e1; subst e1
  exact q
def w_X9 (σ : ml_St) (th : Int) : ml_St := (ml_up (ml_up (ml_up (ml_up (ml_up (ml_up (ml_up (ml_up σ th 0 (th + 1)) th 1 (th + 2)) th 2 0) th 3 0) th 4 0) th 5 0) th 6 0) th 7 0)
set_option maxRecDepth 100000 in
set_option maxHeartbeats 4000000 in
theorem s_X9_init {σ : ml_St} {th : Int} {Q : ml_St → Prop} (z1 : ∀ j : Int, σ (th + 1) j = 0) (z2 : ∀ j : Int, σ (th + 2) j = 0) (q : Q (w_X9 σ th)) : f_X9_init σ th Q := by
  unfold f_X9_init
  refine ⟨fun j => by first | exact z1 j | (simp only [ml_up, w_X9]; rw [if_neg (by omega)]; exact z1 j) | (have := z1 j; simp only [w_X9, ml_up]; (repeat rw [if_neg (by omega)]); exact this), ?_⟩
  intro σ1 e1; subst e1
  refine ⟨fun j => by first | exact z2 j | (simp only [ml_up, w_X9]; rw [if_neg (by omega)]; exact z2 j) | (have := z2 j; simp only [w_X9, ml_up]; (repeat rw [if_neg (by omega)]); exact this), ?_⟩
  intro σ1 e1; subst e1
  intro σ1 e1; subst e1
  intro σ1 e1; subst e1
  intro σ1 e1; subst e1
  intro σ1 e1; subst e1
  intro σ1 e1; subst e1
  intro σ1 e1; subst e1
  exact q
def w_X4 (σ : ml_St) : ml_St := (ml_up (w_X9 (ml_up (w_X9 (ml_up (w_X9 (ml_up (w_X9 (ml_up (w_X9 (ml_up (w_X9 (ml_up (w_X9 (ml_up (w_X9 (ml_up (w_X9 (ml_up (w_X9 (ml_up (w_X9 (ml_up (ml_up (ml_up (w_X3 σ) 8 0 9) 8 1 11) 8 2 12) 13) 8 3 13) 16) 8 4 16) 19) 8 5 19) 22) 8 6 22) 25) 11 0 25) 28) 11 1 28) 31) 11 2 31) 34) 11 3 34) 37) 11 4 37) 40) 11 5 40) 43) 11 6 43)
set_option maxRecDepth 100000 in
set_option maxHeartbeats 4000000 in
theorem s_X4_init {σ : ml_St} {Q : ml_St → Prop} (z1 : ∀ j : Int, σ 9 j = 0) (z2 : ∀ j : Int, σ 10 j = 0) (z3 : ∀ j : Int, σ 11 j = 0) (z4 : ∀ j : Int, σ 12 j = 0) (z5 : ∀ j : Int, σ 13 j = 0) (z6 : ∀ j : Int, σ 14 j = 0) (z7 : ∀ j : Int, σ 15 j = 0) (z8 : ∀ j : Int, σ 16 j = 0) (z9 : ∀ j : Int, σ 17 j = 0) (z10 : ∀ j : Int, σ 18 j = 0) (z11 : ∀ j : Int, σ 19 j = 0) (z12 : ∀ j : Int, σ 20 j = 0) (z13 : ∀ j : Int, σ 21 j = 0) (z14 : ∀ j : Int, σ 22 j = 0) (z15 : ∀ j : Int, σ 23 j = 0) (z16 : ∀ j : Int, σ 24 j = 0) (z17 : ∀ j : Int, σ 25 j = 0) (z18 : ∀ j : Int, σ 26 j = 0) (z19 : ∀ j : Int, σ 27 j = 0) (z20 : ∀ j : Int, σ 28 j = 0) (z21 : ∀ j : Int, σ 29 j = 0) (z22 : ∀ j : Int, σ 30 j = 0) (z23 : ∀ j : Int, σ 31 j = 0) (z24 : ∀ j : Int, σ 32 j = 0) (z25 : ∀ j : Int, σ 33 j = 0) (z26 : ∀ j : Int, σ 34 j = 0) (z27 : ∀ j : Int, σ 35 j = 0) (z28 : ∀ j : Int, σ 36 j = 0) (z29 : ∀ j : Int, σ 37 j = 0) (z30 : ∀ j : Int, σ 38 j = 0) (z31 : ∀ j : Int, σ 39 j = 0) (z32 : ∀ j : Int, σ 40 j = 0) (z33 : ∀ j : Int, σ 41 j = 0) (z34 : ∀ j : Int, σ 42 j = 0) (z35 : ∀ j : Int, σ 43 j = 0) (z36 : ∀ j : Int, σ 44 j = 0) (z37 : ∀ j : Int, σ 45 j = 0) (q : Q (w_X4 σ)) : f_X4_init σ Q := by
  unfold f_X4_init
  refine ⟨fun j => z1 j, ?_⟩
  refine s_X3_init (fun j => z2 j) ?_
  intro σ1 e1; subst e1
  refine ⟨fun j => z3 j, ?_⟩
  intro σ1 e1; subst e1
  refine ⟨fun j => z4 j, ?_⟩
  intro σ1 e1; subst e1
  refine ⟨fun j => z5 j, ?_⟩
  refine s_X9_init (fun j => z6 j) (fun j => z7 j) ?_
  intro σ1 e1; subst e1
  refine ⟨fun j => z8 j, ?_⟩
  refine s_X9_init (fun j => z9 j) (fun j => z10 j) ?_
  intro σ1 e1; subst e1
  refine ⟨fun j => z11 j, ?_⟩
  refine s_X9_init (fun j => z12 j) (fun j => z13 j) ?_
  intro σ1 e1; subst e1
  refine ⟨fun j => z14 j, ?_⟩
  refine s_X9_init (fun j => z15 j) (fun j => z16 j) ?_
  intro σ1 e1; subst e1
  refine ⟨rfl, ?_⟩
  refine ⟨fun j => z17 j, ?_⟩
  refine s_X9_init (fun j => z18 j) (fun j => z19 j) ?_
  intro σ1 e1; subst e1
  refine ⟨rfl, ?_⟩
  refine ⟨fun j => z20 j, ?_⟩
  refine s_X9_init (fun j => z21 j) (fun j => z22 j) ?_
  intro σ1 e1; subst e1
  refine ⟨rfl, ?_⟩
  refine ⟨fun j => z23 j, ?_⟩
  refine s_X9_init (fun j => z24 j) (fun j => z25 j) ?_
  intro σ1 e1; subst e1
  refine ⟨rfl, ?_⟩
  refine ⟨fun j => z26 j, ?_⟩
  refine s_X9_init (fun j => z27 j) (fun j => z28 j) ?_
  intro σ1 e1; subst e1
  refine ⟨rfl, ?_⟩
  refine ⟨fun j => z29 j, ?_⟩
  refine s_X9_init (fun j => z30 j) (fun j => z31 j) ?_
  intro σ1 e1; subst e1
  refine ⟨rfl, ?_⟩
  refine ⟨fun j => z32 j, ?_⟩
  refine s_X9_init (fun j => z33 j) (fun j => z34 j) ?_
  intro σ1 e1; subst e1
  refine ⟨rfl, ?_⟩
  refine ⟨fun j => z35 j, ?_⟩
  refine s_X9_init (fun j => z36 j) (fun j => z37 j) ?_
  intro σ1 e1; subst e1
  exact q
def w_X6 (σ : ml_St) : ml_St := (ml_up (ml_up (ml_up (ml_up (ml_up (ml_up (ml_up (w_X9 (ml_up (w_X9 (ml_up (ml_up σ 46 0 47) 46 1 48) 49) 46 2 49) 52) 46 3 52) 46 4 1) 46 5 1) 46 6 0) 46 7 1) 46 8 0) 46 9 1)
set_option maxRecDepth 100000 in
set_option maxHeartbeats 4000000 in
theorem s_X6_init {σ : ml_St} {Q : ml_St → Prop} (z1 : ∀ j : Int, σ 47 j = 0) (z2 : ∀ j : Int, σ 48 j = 0) (z3 : ∀ j : Int, σ 49 j = 0) (z4 : ∀ j : Int, σ 50 j = 0) (z5 : ∀ j : Int, σ 51 j = 0) (z6 : ∀ j : Int, σ 52 j = 0) (z7 : ∀ j : Int, σ 53 j = 0) (z8 : ∀ j : Int, σ 54 j = 0) (q : Q (w_X6 σ)) : f_X6_init σ Q := by
  unfold f_X6_init
  refine ⟨fun j => z1 j, ?_⟩
  intro σ1 e1; subst e1
  refine ⟨fun j => z2 j, ?_⟩
  intro σ1 e1; subst e1
  refine ⟨fun j => z3 j, ?_⟩
  refine s_X9_init (fun j => z4 j) (fun j => z5 j) ?_
  intro σ1 e1; subst e1
  refine ⟨fun j => z6 j, ?_⟩
  refine s_X9_init (fun j => z7 j) (fun j => z8 j) ?_
  intro σ1 e1; subst e1
  intro σ1 e1; subst e1
  intro σ1 e1; subst e1
  intro σ1 e1; subst e1
  intro σ1 e1; subst e1
  intro σ1 e1; subst e1
  intro σ1 e1; subst e1
  exact q
def w_X7 (σ : ml_St) : ml_St := (ml_up (w_X9 (ml_up (w_X9 (ml_up (ml_up (ml_up (ml_up (ml_up (ml_up (ml_up (ml_up (ml_up (ml_up (ml_up (ml_up σ 55 0 0) 55 1 0) 55 2 0) 55 3 56) 55 4 57) 55 5 58) 55 6 59) 55 7 60) 55 8 61) 55 9 62) 55 10 63) 55 11 0) 64) 55 12 64) 67) 55 13 67)
set_option maxRecDepth 100000 in
set_option maxHeartbeats 4000000 in
theorem s_X7_init {σ : ml_St} {Q : ml_St → Prop} (z1 : ∀ j : Int, σ 56 j = 0) (z2 : ∀ j : Int, σ 57 j = 0) (z3 : ∀ j : Int, σ 58 j = 0) (z4 : ∀ j : Int, σ 59 j = 0) (z5 : ∀ j : Int, σ 60 j = 0) (z6 : ∀ j : Int, σ 61 j = 0) (z7 : ∀ j : Int, σ 62 j = 0) (z8 : ∀ j : Int, σ 63 j = 0) (z9 : ∀ j : Int, σ 64 j = 0) (z10 : ∀ j : Int, σ 65 j = 0) (z11 : ∀ j : Int, σ 66 j = 0) (z12 : ∀ j : Int, σ 67 j = 0) (z13 : ∀ j : Int, σ 68 j = 0) (z14 : ∀ j : Int, σ 69 j = 0) (q : Q (w_X7 σ)) : f_X7_init σ Q := by
  unfold f_X7_init
  intro σ1 e1; subst e1
  intro σ1 e1; subst e1
  intro σ1 e1; subst e1
  refine ⟨fun j => z1 j, ?_⟩
  intro σ1 e1; subst e1
  refine ⟨fun j => z2 j, ?_⟩
  intro σ1 e1; subst e1
  refine ⟨fun j => z3 j, ?_⟩
  intro σ1 e1; subst e1
  refine ⟨fun j => z4 j, ?_⟩
  intro σ1 e1; subst e1
  refine ⟨fun j => z5 j, ?_⟩
  intro σ1 e1; subst e1
  refine ⟨fun j => z6 j, ?_⟩
  intro σ1 e1; subst e1
  refine ⟨fun j => z7 j, ?_⟩
  intro σ1 e1; subst e1
  refine ⟨fun j => z8 j, ?_⟩
  intro σ1 e1; subst e1
  intro σ1 e1; subst e1
  refine ⟨fun j => z9 j, ?_⟩
  refine s_X9_init (fun j => z10 j) (fun j => z11 j) ?_
  intro σ1 e1; subst e1
  refine ⟨fun j => z12 j, ?_⟩
  refine s_X9_init (fun j => z13 j) (fun j => z14 j) ?_
  intro σ1 e1; subst e1
  exact q
def w_X1 (σ : ml_St) : ml_St := (ml_up (ml_up (ml_up (ml_up (ml_up (ml_up (ml_up σ 70 0 71) 70 1 72) 70 2 73) 70 3 74) 70 4 75) 70 5 (-1)) 70 6 (-1))
set_option maxRecDepth 100000 in
set_option maxHeartbeats 4000000 in
theorem s_X1_init {σ : ml_St} {Q : ml_St → Prop} (z1 : ∀ j : Int, σ 71 j = 0) (z2 : ∀ j : Int, σ 72 j = 0) (z3 : ∀ j : Int, σ 73 j = 0) (z4 : ∀ j : Int, σ 74 j = 0) (z5 : ∀ j : Int, σ 75 j = 0) (q : Q (w_X1 σ)) : f_X1_init σ Q := by
  unfold f_X1_init
  refine ⟨fun j => z1 j, ?_⟩
  intro σ1 e1; subst e1
  refine ⟨fun j => z2 j, ?_⟩
  intro σ1 e1; subst e1
  refine ⟨fun j => z3 j, ?_⟩
  intro σ1 e1; subst e1
  refine ⟨fun j => z4 j, ?_⟩
  intro σ1 e1; subst e1
  refine ⟨fun j => z5 j, ?_⟩
  intro σ1 e1; subst e1
  intro σ1 e1; subst e1
  intro σ1 e1; subst e1
  exact q
def w_X5 (σ : ml_St) : ml_St := (ml_up (w_X9 (ml_up (w_X9 (ml_up (w_X9 (ml_up (w_X9 (ml_up (w_X9 (ml_up (w_X9 (ml_up (w_X9 (ml_up (w_X9 (ml_up (w_X9 (ml_up (w_X9 (ml_up (w_X9 (ml_up (w_X9 (ml_up σ 76 0 77) 78) 76 1 78) 81) 77 0 81) 84) 77 1 84) 87) 77 2 87) 90) 77 3 90) 93) 77 4 93) 96) 77 5 96) 99) 77 6 99) 102) 77 7 102) 105) 77 8 105) 108) 77 9 108) 111) 77 10 111)
set_option maxRecDepth 100000 in
set_option maxHeartbeats 4000000 in
theorem s_X5_init {σ : ml_St} {Q : ml_St → Prop} (z1 : ∀ j : Int, σ 77 j = 0) (z2 : ∀ j : Int, σ 78 j = 0) (z3 : ∀ j : Int, σ 79 j = 0) (z4 : ∀ j : Int, σ 80 j = 0) (z5 : ∀ j : Int, σ 81 j = 0) (z6 : ∀ j : Int, σ 82 j = 0) (z7 : ∀ j : Int, σ 83 j = 0) (z8 : ∀ j : Int, σ 84 j = 0) (z9 : ∀ j : Int, σ 85 j = 0) (z10 : ∀ j : Int, σ 86 j = 0) (z11 : ∀ j : Int, σ 87 j = 0) (z12 : ∀ j : Int, σ 88 j = 0) (z13 : ∀ j : Int, σ 89 j = 0) (z14 : ∀ j : Int, σ 90 j = 0) (z15 : ∀ j : Int, σ 91 j = 0) (z16 : ∀ j : Int, σ 92 j = 0) (z17 : ∀ j : Int, σ 93 j = 0) (z18 : ∀ j : Int, σ 94 j = 0) (z19 : ∀ j : Int, σ 95 j = 0) (z20 : ∀ j : Int, σ 96 j = 0) (z21 : ∀ j : Int, σ 97 j = 0) (z22 : ∀ j : Int, σ 98 j = 0) (z23 : ∀ j : Int, σ 99 j = 0) (z24 : ∀ j : Int, σ 100 j = 0) (z25 : ∀ j : Int, σ 101 j = 0) (z26 : ∀ j : Int, σ 102 j = 0) (z27 : ∀ j : Int, σ 103 j = 0) (z28 : ∀ j : Int, σ 104 j = 0) (z29 : ∀ j : Int, σ 105 j = 0) (z30 : ∀ j : Int, σ 106 j = 0) (z31 : ∀ j : Int, σ 107 j = 0) (z32 : ∀ j : Int, σ 108 j = 0) (z33 : ∀ j : Int, σ 109 j = 0) (z34 : ∀ j : Int, σ 110 j = 0) (z35 : ∀ j : Int, σ 111 j = 0) (z36 : ∀ j : Int, σ 112 j = 0) (z37 : ∀ j : Int, σ 113 j = 0) (q : Q (w_X5 σ)) : f_X5_init σ Q := by
  unfold f_X5_init
  refine ⟨fun j => z1 j, ?_⟩
  intro σ1 e1; subst e1
  refine ⟨fun j => z2 j, ?_⟩
  refine s_X9_init (fun j => z3 j) (fun j => z4 j) ?_
  intro σ1 e1; subst e1
  refine ⟨rfl, ?_⟩
  refine ⟨fun j => z5 j, ?_⟩
  refine s_X9_init (fun j => z6 j) (fun j => z7 j) ?_
  intro σ1 e1; subst e1
  refine ⟨rfl, ?_⟩
  refine ⟨fun j => z8 j, ?_⟩
  refine s_X9_init (fun j => z9 j) (fun j => z10 j) ?_
  intro σ1 e1; subst e1
  refine ⟨rfl, ?_⟩
  refine ⟨fun j => z11 j, ?_⟩
  refine s_X9_init (fun j => z12 j) (fun j => z13 j) ?_
  intro σ1 e1; subst e1
  refine ⟨rfl, ?_⟩
  refine ⟨fun j => z14 j, ?_⟩
  refine s_X9_init (fun j => z15 j) (fun j => z16 j) ?_
  intro σ1 e1; subst e1
  refine ⟨rfl, ?_⟩
  refine ⟨fun j => z17 j, ?_⟩
  refine s_X9_init (fun j => z18 j) (fun j => z19 j) ?_
  intro σ1 e1; subst e1
  refine ⟨rfl, ?_⟩
  refine ⟨fun j => z20 j, ?_⟩
  refine s_X9_init (fun j => z21 j) (fun j => z22 j) ?_
  intro σ1 e1; subst e1
  refine ⟨rfl, ?_⟩
  refine ⟨fun j => z23 j, ?_⟩
  refine s_X9_init (fun j => z24 j) (fun j => z25 j) ?_
  intro σ1 e1; subst e1
  refine ⟨rfl, ?_⟩
  refine ⟨fun j => z26 j, ?_⟩
  refine s_X9_init (fun j => z27 j) (fun j => z28 j) ?_
  intro σ1 e1; subst e1
  refine ⟨rfl, ?_⟩
  refine ⟨fun j => z29 j, ?_⟩
  refine s_X9_init (fun j => z30 j) (fun j => z31 j) ?_
  intro σ1 e1; subst e1
  refine ⟨rfl, ?_⟩
  refine ⟨fun j => z32 j, ?_⟩
  refine s_X9_init (fun j => z33 j) (fun j => z34 j) ?_
  intro σ1 e1; subst e1
  refine ⟨rfl, ?_⟩
  refine ⟨fun j => z35 j, ?_⟩
  refine s_X9_init (fun j => z36 j) (fun j => z37 j) ?_
  intro σ1 e1; subst e1
  exact q
def w_X10 (σ : ml_St) (th : Int) : ml_St := (ml_up (ml_up (ml_up (ml_up (w_X9 (ml_up (ml_up (ml_up (ml_up σ th 0 (th + 1)) th 1 0) th 2 0) th 3 1) (th + 2)) th 4 (th + 2)) th 5 (th + 5)) th 6 0) th 7 0)
set_option maxRecDepth 100000 in
set_option maxHeartbeats 4000000 in
theorem s_X10_init {σ : ml_St} {th : Int} {Q : ml_St → Prop} (z1 : ∀ j : Int, σ (th + 1) j = 0) (z2 : ∀ j : Int, σ (th + 2) j = 0) (z3 : ∀ j : Int, σ (th + 3) j = 0) (z4 : ∀ j : Int, σ (th + 4) j = 0) (z5 : ∀ j : Int, σ (th + 5) j = 0) (q : Q (w_X10 σ th)) : f_X10_init σ th Q := by
  unfold f_X10_init
  refine ⟨fun j => by first | exact z1 j | (simp only [ml_up, w_X9]; rw [if_neg (by omega)]; exact z1 j) | (have := z1 j; simp only [w_X9, ml_up]; (repeat rw [if_neg (by omega)]); exact this), ?_⟩
  intro σ1 e1; subst e1
  intro σ1 e1; subst e1
  intro σ1 e1; subst e1
  intro σ1 e1; subst e1
  refine ⟨fun j => by first | exact z2 j | (simp only [ml_up, w_X9]; rw [if_neg (by omega)]; exact z2 j) | (have := z2 j; simp only [w_X9, ml_up]; (repeat rw [if_neg (by omega)]); exact this), ?_⟩
  refine s_X9_init (fun j => by have := z3 j; simp only [ml_up]; (repeat rw [if_neg (by omega)]); rw [show (th + 2 + 1 : Int) = th + 3 by omega]; exact this) (fun j => by have := z4 j; simp only [ml_up]; (repeat rw [if_neg (by omega)]); rw [show (th + 2 + 2 : Int) = th + 4 by omega]; exact this) ?_
  intro σ1 e1; subst e1
  refine ⟨fun j => by first | exact z5 j | (simp only [ml_up, w_X9]; rw [if_neg (by omega)]; exact z5 j) | (have := z5 j; simp only [w_X9, ml_up]; (repeat rw [if_neg (by omega)]); exact this), ?_⟩
  intro σ1 e1; subst e1
  intro σ1 e1; subst e1
  intro σ1 e1; subst e1
  exact q
def w_X11a (σ : ml_St) : ml_St := (ml_up (w_X10 (ml_up (w_X10 (ml_up (w_X10 (ml_up (w_X10 (ml_up (w_X10 (ml_up (w_X10 (ml_up (w_X10 (ml_up (w_X10 (ml_up (w_X10 (ml_up (w_X10 (ml_up (w_X10 (ml_up (w_X10 (ml_up (w_X10 (ml_up (w_X10 (ml_up (w_X10 (ml_up (w_X10 (ml_up (ml_up (ml_up (w_X9 (ml_up (ml_up (ml_up (w_X5 (ml_up (w_X1 (ml_up (w_X7 (ml_up (w_X6 (ml_up (w_X4 (ml_up (w_X2 (ml_up (w_X0 (ml_up (w_X8 σ) 1 0 2)) 1 1 4)) 1 2 6)) 1 3 8)) 1 4 46)) 1 5 55)) 1 6 70)) 1 7 76) 1 8 114) 1 9 115) 116) 1 10 116) 1 11 4) 1 12 0) 119) 114 0 119) 125) 114 1 125) 131) 114 2 131) 137) 114 3 137) 143) 114 4 143) 149) 114 5 149) 155) 114 6 155) 161) 114 7 161) 167) 114 8 167) 173) 114 9 173) 179) 114 10 179) 185) 114 11 185) 191) 114 12 191) 197) 114 13 197) 203) 114 14 203) 209) 114 15 209)
def w_X11 (σ : ml_St) : ml_St := ml_round (w_X11a σ) 4
set_option maxRecDepth 100000 in
set_option maxHeartbeats 4000000 in
theorem s_X11_init {σ : ml_St} {Q : ml_St → Prop} (z1 : ∀ j : Int, σ 2 j = 0) (z2 : ∀ j : Int, σ 3 j = 0) (z3 : ∀ j : Int, σ 4 j = 0) (z4 : ∀ j : Int, σ 5 j = 0) (z5 : ∀ j : Int, σ 6 j = 0) (z6 : ∀ j : Int, σ 7 j = 0) (z7 : ∀ j : Int, σ 8 j = 0) (z8 : ∀ j : Int, σ 9 j = 0) (z9 : ∀ j : Int, σ 10 j = 0) (z10 : ∀ j : Int, σ 11 j = 0) (z11 : ∀ j : Int, σ 12 j = 0) (z12 : ∀ j : Int, σ 13 j = 0) (z13 : ∀ j : Int, σ 14 j = 0) (z14 : ∀ j : Int, σ 15 j = 0) (z15 : ∀ j : Int, σ 16 j = 0) (z16 : ∀ j : Int, σ 17 j = 0) (z17 : ∀ j : Int, σ 18 j = 0) (z18 : ∀ j : Int, σ 19 j = 0) (z19 : ∀ j : Int, σ 20 j = 0) (z20 : ∀ j : Int, σ 21 j = 0) (z21 : ∀ j : Int, σ 22 j = 0) (z22 : ∀ j : Int, σ 23 j = 0) (z23 : ∀ j : Int, σ 24 j = 0) (z24 : ∀ j : Int, σ 25 j = 0) (z25 : ∀ j : Int, σ 26 j = 0) (z26 : ∀ j : Int, σ 27 j = 0) (z27 : ∀ j : Int, σ 28 j = 0) (z28 : ∀ j : Int, σ 29 j = 0) (z29 : ∀ j : Int, σ 30 j = 0) (z30 : ∀ j : Int, σ 31 j = 0) (z31 : ∀ j : Int, σ 32 j = 0) (z32 : ∀ j : Int, σ 33 j = 0) (z33 : ∀ j : Int, σ 34 j = 0) (z34 : ∀ j : Int, σ 35 j = 0) (z35 : ∀ j : Int, σ 36 j = 0) (z36 : ∀ j : Int, σ 37 j = 0) (z37 : ∀ j : Int, σ 38 j = 0) (z38 : ∀ j : Int, σ 39 j = 0) (z39 : ∀ j : Int, σ 40 j = 0) (z40 : ∀ j : Int, σ 41 j = 0) (z41 : ∀ j : Int, σ 42 j = 0) (z42 : ∀ j : Int, σ 43 j = 0) (z43 : ∀ j : Int, σ 44 j = 0) (z44 : ∀ j : Int, σ 45 j = 0) (z45 : ∀ j : Int, σ 46 j = 0) (z46 : ∀ j : Int, σ 47 j = 0) (z47 : ∀ j : Int, σ 48 j = 0) (z48 : ∀ j : Int, σ 49 j = 0) (z49 : ∀ j : Int, σ 50 j = 0) (z50 : ∀ j : Int, σ 51 j = 0) (z51 : ∀ j : Int, σ 52 j = 0) (z52 : ∀ j : Int, σ 53 j = 0) (z53 : ∀ j : Int, σ 54 j = 0) (z54 : ∀ j : Int, σ 55 j = 0) (z55 : ∀ j : Int, σ 56 j = 0) (z56 : ∀ j : Int, σ 57 j = 0) (z57 : ∀ j : Int, σ 58 j = 0) (z58 : ∀ j : Int, σ 59 j = 0) (z59 : ∀ j : Int, σ 60 j = 0) (z60 : ∀ j : Int, σ 61 j = 0) (z61 : ∀ j : Int, σ 62 j = 0) (z62 : ∀ j : Int, σ 63 j = 0) (z63 : ∀ j : Int, σ 64 j = 0) (z64 : ∀ j : Int, σ 65 j = 0) (z65 : ∀ j : Int, σ 66 j = 0) (z66 : ∀ j : Int, σ 67 j = 0) (z67 : ∀ j : Int, σ 68 j = 0) (z68 : ∀ j : Int, σ 69 j = 0) (z69 : ∀ j : Int, σ 70 j = 0) (z70 : ∀ j : Int, σ 71 j = 0) (z71 : ∀ j : Int, σ 72 j = 0) (z72 : ∀ j : Int, σ 73 j = 0) (z73 : ∀ j : Int, σ 74 j = 0) (z74 : ∀ j : Int, σ 75 j = 0) (z75 : ∀ j : Int, σ 76 j = 0) (z76 : ∀ j : Int, σ 77 j = 0) (z77 : ∀ j : Int, σ 78 j = 0) (z78 : ∀ j : Int, σ 79 j = 0) (z79 : ∀ j : Int, σ 80 j = 0) (z80 : ∀ j : Int, σ 81 j = 0) (z81 : ∀ j : Int, σ 82 j = 0) (z82 : ∀ j : Int, σ 83 j = 0) (z83 : ∀ j : Int, σ 84 j = 0) (z84 : ∀ j : Int, σ 85 j = 0) (z85 : ∀ j : Int, σ 86 j = 0) (z86 : ∀ j : Int, σ 87 j = 0) (z87 : ∀ j : Int, σ 88 j = 0) (z88 : ∀ j : Int, σ 89 j = 0) (z89 : ∀ j : Int, σ 90 j = 0) (z90 : ∀ j : Int, σ 91 j = 0) (z91 : ∀ j : Int, σ 92 j = 0) (z92 : ∀ j : Int, σ 93 j = 0) (z93 : ∀ j : Int, σ 94 j = 0) (z94 : ∀ j : Int, σ 95 j = 0) (z95 : ∀ j : Int, σ 96 j = 0) (z96 : ∀ j : Int, σ 97 j = 0) (z97 : ∀ j : Int, σ 98 j = 0) (z98 : ∀ j : Int, σ 99 j = 0) (z99 : ∀ j : Int, σ 100 j = 0) (z100 : ∀ j : Int, σ 101 j = 0) (z101 : ∀ j : Int, σ 102 j = 0) (z102 : ∀ j : Int, σ 103 j = 0) (z103 : ∀ j : Int, σ 104 j = 0) (z104 : ∀ j : Int, σ 105 j = 0) (z105 : ∀ j : Int, σ 106 j = 0) (z106 : ∀ j : Int, σ 107 j = 0) (z107 : ∀ j : Int, σ 108 j = 0) (z108 : ∀ j : Int, σ 109 j = 0) (z109 : ∀ j : Int, σ 110 j = 0) (z110 : ∀ j : Int, σ 111 j = 0) (z111 : ∀ j : Int, σ 112 j = 0) (z112 : ∀ j : Int, σ 113 j = 0) (z113 : ∀ j : Int, σ 114 j = 0) (z114 : ∀ j : Int, σ 115 j = 0) (z115 : ∀ j : Int, σ 116 j = 0) (z116 : ∀ j : Int, σ 117 j = 0) (z117 : ∀ j : Int, σ 118 j = 0) (z118 : ∀ j : Int, σ 119 j = 0) (z119 : ∀ j : Int, σ 120 j = 0) (z120 : ∀ j : Int, σ 121 j = 0) (z121 : ∀ j : Int, σ 122 j = 0) (z122 : ∀ j : Int, σ 123 j = 0) (z123 : ∀ j : Int, σ 124 j = 0) (z124 : ∀ j : Int, σ 125 j = 0) (z125 : ∀ j : Int, σ 126 j = 0) (z126 : ∀ j : Int, σ 127 j = 0) (z127 : ∀ j : Int, σ 128 j = 0) (z128 : ∀ j : Int, σ 129 j = 0) (z129 : ∀ j : Int, σ 130 j = 0) (z130 : ∀ j : Int, σ 131 j = 0) (z131 : ∀ j : Int, σ 132 j = 0) (z132 : ∀ j : Int, σ 133 j = 0) (z133 : ∀ j : Int, σ 134 j = 0) (z134 : ∀ j : Int, σ 135 j = 0) (z135 : ∀ j : Int, σ 136 j = 0) (z136 : ∀ j : Int, σ 137 j = 0) (z137 : ∀ j : Int, σ 138 j = 0) (z138 : ∀ j : Int, σ 139 j = 0) (z139 : ∀ j : Int, σ 140 j = 0) (z140 : ∀ j : Int, σ 141 j = 0) (z141 : ∀ j : Int, σ 142 j = 0) (z142 : ∀ j : Int, σ 143 j = 0) (z143 : ∀ j : Int, σ 144 j = 0) (z144 : ∀ j : Int, σ 145 j = 0) (z145 : ∀ j : Int, σ 146 j = 0) (z146 : ∀ j : Int, σ 147 j = 0) (z147 : ∀ j : Int, σ 148 j = 0) (z148 : ∀ j : Int, σ 149 j = 0) (z149 : ∀ j : Int, σ 150 j = 0) (z150 : ∀ j : Int, σ 151 j = 0) (z151 : ∀ j : Int, σ 152 j = 0) (z152 : ∀ j : Int, σ 153 j = 0) (z153 : ∀ j : Int, σ 154 j = 0) (z154 : ∀ j : Int, σ 155 j = 0) (z155 : ∀ j : Int, σ 156 j = 0) (z156 : ∀ j : Int, σ 157 j = 0) (z157 : ∀ j : Int, σ 158 j = 0) (z158 : ∀ j : Int, σ 159 j = 0) (z159 : ∀ j : Int, σ 160 j = 0) (z160 : ∀ j : Int, σ 161 j = 0) (z161 : ∀ j : Int, σ 162 j = 0) (z162 : ∀ j : Int, σ 163 j = 0) (z163 : ∀ j : Int, σ 164 j = 0) (z164 : ∀ j : Int, σ 165 j = 0) (z165 : ∀ j : Int, σ 166 j = 0) (z166 : ∀ j : Int, σ 167 j = 0) (z167 : ∀ j : Int, σ 168 j = 0) (z168 : ∀ j : Int, σ 169 j = 0) (z169 : ∀ j : Int, σ 170 j = 0) (z170 : ∀ j : Int, σ 171 j = 0) (z171 : ∀ j : Int, σ 172 j = 0) (z172 : ∀ j : Int, σ 173 j = 0) (z173 : ∀ j : Int, σ 174 j = 0) (z174 : ∀ j : Int, σ 175 j = 0) (z175 : ∀ j : Int, σ 176 j = 0) (z176 : ∀ j : Int, σ 177 j = 0) (z177 : ∀ j : Int, σ 178 j = 0) (z178 : ∀ j : Int, σ 179 j = 0) (z179 : ∀ j : Int, σ 180 j = 0) (z180 : ∀ j : Int, σ 181 j = 0) (z181 : ∀ j : Int, σ 182 j = 0) (z182 : ∀ j : Int, σ 183 j = 0) (z183 : ∀ j : Int, σ 184 j = 0) (z184 : ∀ j : Int, σ 185 j = 0) (z185 : ∀ j : Int, σ 186 j = 0) (z186 : ∀ j : Int, σ 187 j = 0) (z187 : ∀ j : Int, σ 188 j = 0) (z188 : ∀ j : Int, σ 189 j = 0) (z189 : ∀ j : Int, σ 190 j = 0) (z190 : ∀ j : Int, σ 191 j = 0) (z191 : ∀ j : Int, σ 192 j = 0) (z192 : ∀ j : Int, σ 193 j = 0) (z193 : ∀ j : Int, σ 194 j = 0) (z194 : ∀ j : Int, σ 195 j = 0) (z195 : ∀ j : Int, σ 196 j = 0) (z196 : ∀ j : Int, σ 197 j = 0) (z197 : ∀ j : Int, σ 198 j = 0) (z198 : ∀ j : Int, σ 199 j = 0) (z199 : ∀ j : Int, σ 200 j = 0) (z200 : ∀ j : Int, σ 201 j = 0) (z201 : ∀ j : Int, σ 202 j = 0) (z202 : ∀ j : Int, σ 203 j = 0) (z203 : ∀ j : Int, σ 204 j = 0) (z204 : ∀ j : Int, σ 205 j = 0) (z205 : ∀ j : Int, σ 206 j = 0) (z206 : ∀ j : Int, σ 207 j = 0) (z207 : ∀ j : Int, σ 208 j = 0) (z208 : ∀ j : Int, σ 209 j = 0) (z209 : ∀ j : Int, σ 210 j = 0) (z210 : ∀ j : Int, σ 211 j = 0) (z211 : ∀ j : Int, σ 212 j = 0) (z212 : ∀ j : Int, σ 213 j = 0) (z213 : ∀ j : Int, σ 214 j = 0) (hro : ml_RO 214 (w_X11a σ)) (q : Q (w_X11 σ)) : f_X11_init σ Q := by
  unfold f_X11_init
  refine ⟨fun j => z1 j, ?_⟩
  refine s_X8_init (fun j => z2 j) ?_
  intro σ1 e1; subst e1
  refine ⟨fun j => z3 j, ?_⟩
  refine s_X0_init (fun j => z4 j) ?_
  intro σ1 e1; subst e1
  refine ⟨fun j => z5 j, ?_⟩
  refine s_X2_init (fun j => z6 j) ?_
  intro σ1 e1; subst e1
  refine ⟨fun j => z7 j, ?_⟩
  refine s_X4_init (fun j => z8 j) (fun j => z9 j) (fun j => z10 j) (fun j => z11 j) (fun j => z12 j) (fun j => z13 j) (fun j => z14 j) (fun j => z15 j) (fun j => z16 j) (fun j => z17 j) (fun j => z18 j) (fun j => z19 j) (fun j => z20 j) (fun j => z21 j) (fun j => z22 j) (fun j => z23 j) (fun j => z24 j) (fun j => z25 j) (fun j => z26 j) (fun j => z27 j) (fun j => z28 j) (fun j => z29 j) (fun j => z30 j) (fun j => z31 j) (fun j => z32 j) (fun j => z33 j) (fun j => z34 j) (fun j => z35 j) (fun j => z36 j) (fun j => z37 j) (fun j => z38 j) (fun j => z39 j) (fun j => z40 j) (fun j => z41 j) (fun j => z42 j) (fun j => z43 j) (fun j => z44 j) ?_
  intro σ1 e1; subst e1
  refine ⟨fun j => z45 j, ?_⟩
  refine s_X6_init (fun j => z46 j) (fun j => z47 j) (fun j => z48 j) (fun j => z49 j) (fun j => z50 j) (fun j => z51 j) (fun j => z52 j) (fun j => z53 j) ?_
  intro σ1 e1; subst e1
  refine ⟨fun j => z54 j, ?_⟩
  refine s_X7_init (fun j => z55 j) (fun j => z56 j) (fun j => z57 j) (fun j => z58 j) (fun j => z59 j) (fun j => z60 j) (fun j => z61 j) (fun j => z62 j) (fun j => z63 j) (fun j => z64 j) (fun j => z65 j) (fun j => z66 j) (fun j => z67 j) (fun j => z68 j) ?_
  intro σ1 e1; subst e1
  refine ⟨fun j => z69 j, ?_⟩
  refine s_X1_init (fun j => z70 j) (fun j => z71 j) (fun j => z72 j) (fun j => z73 j) (fun j => z74 j) ?_
  intro σ1 e1; subst e1
  refine ⟨fun j => z75 j, ?_⟩
  refine s_X5_init (fun j => z76 j) (fun j => z77 j) (fun j => z78 j) (fun j => z79 j) (fun j => z80 j) (fun j => z81 j) (fun j => z82 j) (fun j => z83 j) (fun j => z84 j) (fun j => z85 j) (fun j => z86 j) (fun j => z87 j) (fun j => z88 j) (fun j => z89 j) (fun j => z90 j) (fun j => z91 j) (fun j => z92 j) (fun j => z93 j) (fun j => z94 j) (fun j => z95 j) (fun j => z96 j) (fun j => z97 j) (fun j => z98 j) (fun j => z99 j) (fun j => z100 j) (fun j => z101 j) (fun j => z102 j) (fun j => z103 j) (fun j => z104 j) (fun j => z105 j) (fun j => z106 j) (fun j => z107 j) (fun j => z108 j) (fun j => z109 j) (fun j => z110 j) (fun j => z111 j) (fun j => z112 j) ?_
  intro σ1 e1; subst e1
  refine ⟨fun j => z113 j, ?_⟩
  intro σ1 e1; subst e1
  refine ⟨fun j => z114 j, ?_⟩
  intro σ1 e1; subst e1
  refine ⟨fun j => z115 j, ?_⟩
  refine s_X9_init (fun j => z116 j) (fun j => z117 j) ?_
  intro σ1 e1; subst e1
  intro σ1 e1; subst e1
  intro σ1 e1; subst e1
  refine ⟨rfl, ?_⟩
  refine ⟨fun j => z118 j, ?_⟩
  refine s_X10_init (fun j => z119 j) (fun j => z120 j) (fun j => z121 j) (fun j => z122 j) (fun j => z123 j) ?_
  intro σ1 e1; subst e1
  refine ⟨rfl, ?_⟩
  refine ⟨fun j => z124 j, ?_⟩
  refine s_X10_init (fun j => z125 j) (fun j => z126 j) (fun j => z127 j) (fun j => z128 j) (fun j => z129 j) ?_
  intro σ1 e1; subst e1
  refine ⟨rfl, ?_⟩
  refine ⟨fun j => z130 j, ?_⟩
  refine s_X10_init (fun j => z131 j) (fun j => z132 j) (fun j => z133 j) (fun j => z134 j) (fun j => z135 j) ?_
  intro σ1 e1; subst e1
  refine ⟨rfl, ?_⟩
  refine ⟨fun j => z136 j, ?_⟩
  refine s_X10_init (fun j => z137 j) (fun j => z138 j) (fun j => z139 j) (fun j => z140 j) (fun j => z141 j) ?_
  intro σ1 e1; subst e1
  refine ⟨rfl, ?_⟩
  refine ⟨fun j => z142 j, ?_⟩
  refine s_X10_init (fun j => z143 j) (fun j => z144 j) (fun j => z145 j) (fun j => z146 j) (fun j => z147 j) ?_
  intro σ1 e1; subst e1
  refine ⟨rfl, ?_⟩
  refine ⟨fun j => z148 j, ?_⟩
  refine s_X10_init (fun j => z149 j) (fun j => z150 j) (fun j => z151 j) (fun j => z152 j) (fun j => z153 j) ?_
  intro σ1 e1; subst e1
  refine ⟨rfl, ?_⟩
  refine ⟨fun j => z154 j, ?_⟩
  refine s_X10_init (fun j => z155 j) (fun j => z156 j) (fun j => z157 j) (fun j => z158 j) (fun j => z159 j) ?_
  intro σ1 e1; subst e1
  refine ⟨rfl, ?_⟩
  refine ⟨fun j => z160 j, ?_⟩
  refine s_X10_init (fun j => z161 j) (fun j => z162 j) (fun j => z163 j) (fun j => z164 j) (fun j => z165 j) ?_
  intro σ1 e1; subst e1
  refine ⟨rfl, ?_⟩
  refine ⟨fun j => z166 j, ?_⟩
  refine s_X10_init (fun j => z167 j) (fun j => z168 j) (fun j => z169 j) (fun j => z170 j) (fun j => z171 j) ?_
  intro σ1 e1; subst e1
  refine ⟨rfl, ?_⟩
  refine ⟨fun j => z172 j, ?_⟩
  refine s_X10_init (fun j => z173 j) (fun j => z174 j) (fun j => z175 j) (fun j => z176 j) (fun j => z177 j) ?_
  intro σ1 e1; subst e1
  refine ⟨rfl, ?_⟩
  refine ⟨fun j => z178 j, ?_⟩
  refine s_X10_init (fun j => z179 j) (fun j => z180 j) (fun j => z181 j) (fun j => z182 j) (fun j => z183 j) ?_
  intro σ1 e1; subst e1
  refine ⟨rfl, ?_⟩
  refine ⟨fun j => z184 j, ?_⟩
  refine s_X10_init (fun j => z185 j) (fun j => z186 j) (fun j => z187 j) (fun j => z188 j) (fun j => z189 j) ?_
  intro σ1 e1; subst e1
  refine ⟨rfl, ?_⟩
  refine ⟨fun j => z190 j, ?_⟩
  refine s_X10_init (fun j => z191 j) (fun j => z192 j) (fun j => z193 j) (fun j => z194 j) (fun j => z195 j) ?_
  intro σ1 e1; subst e1
  refine ⟨rfl, ?_⟩
  refine ⟨fun j => z196 j, ?_⟩
  refine s_X10_init (fun j => z197 j) (fun j => z198 j) (fun j => z199 j) (fun j => z200 j) (fun j => z201 j) ?_
  intro σ1 e1; subst e1
  refine ⟨rfl, ?_⟩
  refine ⟨fun j => z202 j, ?_⟩
  refine s_X10_init (fun j => z203 j) (fun j => z204 j) (fun j => z205 j) (fun j => z206 j) (fun j => z207 j) ?_
  intro σ1 e1; subst e1
  refine ⟨rfl, ?_⟩
  refine ⟨fun j => z208 j, ?_⟩
  refine s_X10_init (fun j => z209 j) (fun j => z210 j) (fun j => z211 j) (fun j => z212 j) (fun j => z213 j) ?_
  intro σ1 e1; subst e1
  refine ⟨rfl, ?_⟩
  intro _
  refine ⟨hro, ?_⟩
  refine s_goRound (h := 4) (by omega) (by omega) ?_
  exact q
def w_X12 (σ : ml_St) : ml_St := (ml_up (ml_up (ml_up (ml_up (ml_up (ml_up (ml_up (ml_up (ml_up (ml_up (ml_up (ml_up (ml_up (ml_up (ml_up (ml_up (ml_up (ml_up (ml_up (ml_up (ml_up (ml_up (ml_up (ml_up (ml_up (ml_up (ml_up (ml_up (ml_up (ml_up (ml_up (ml_up (ml_up (ml_up (ml_up (ml_up (ml_up (ml_up (ml_up (ml_up (ml_up (ml_up (ml_up (ml_up (ml_up (ml_up (ml_up (ml_up (ml_up (ml_up (ml_up (ml_up (ml_up (ml_up (ml_up (ml_up (ml_up (ml_up σ 215 0 216) 215 2 4) 215 5 217) 215 6 218) 215 7 219) 215 8 220) 215 13 221) 215 14 222) 215 15 223) 215 16 224) 215 17 225) 215 18 226) 215 21 227) 215 22 228) 215 23 229) 215 24 230) 215 25 231) 215 26 232) 215 28 233) 215 29 234) 215 30 235) 215 31 236) 215 40 237) 215 41 238) 215 42 239) 215 43 240) 215 44 241) 215 45 242) 215 46 243) 215 47 244) 215 48 245) 215 49 246) 215 50 247) 215 51 248) 215 52 249) 215 54 250) 215 55 251) 215 56 252) 215 57 253) 215 58 254) 215 59 255) 215 60 256) 220 0 1) 220 1 1) 220 2 1) 220 3 1) 220 4 1) 220 5 1) 220 6 1) 220 7 1) 220 8 1) 220 9 1) 220 10 1) 220 11 1) 220 12 1) 220 13 1) 220 14 1) 220 15 1)
set_option maxRecDepth 100000 in
set_option maxHeartbeats 4000000 in
theorem s_X12_init {σ : ml_St} {Q : ml_St → Prop} (z1 : ∀ j : Int, σ 216 j = 0) (z2 : ∀ j : Int, σ 217 j = 0) (z3 : ∀ j : Int, σ 218 j = 0) (z4 : ∀ j : Int, σ 219 j = 0) (z5 : ∀ j : Int, σ 220 j = 0) (z6 : ∀ j : Int, σ 221 j = 0) (z7 : ∀ j : Int, σ 222 j = 0) (z8 : ∀ j : Int, σ 223 j = 0) (z9 : ∀ j : Int, σ 224 j = 0) (z10 : ∀ j : Int, σ 225 j = 0) (z11 : ∀ j : Int, σ 226 j = 0) (z12 : ∀ j : Int, σ 227 j = 0) (z13 : ∀ j : Int, σ 228 j = 0) (z14 : ∀ j : Int, σ 229 j = 0) (z15 : ∀ j : Int, σ 230 j = 0) (z16 : ∀ j : Int, σ 231 j = 0) (z17 : ∀ j : Int, σ 232 j = 0) (z18 : ∀ j : Int, σ 233 j = 0) (z19 : ∀ j : Int, σ 234 j = 0) (z20 : ∀ j : Int, σ 235 j = 0) (z21 : ∀ j : Int, σ 236 j = 0) (z22 : ∀ j : Int, σ 237 j = 0) (z23 : ∀ j : Int, σ 238 j = 0) (z24 : ∀ j : Int, σ 239 j = 0) (z25 : ∀ j : Int, σ 240 j = 0) (z26 : ∀ j : Int, σ 241 j = 0) (z27 : ∀ j : Int, σ 242 j = 0) (z28 : ∀ j : Int, σ 243 j = 0) (z29 : ∀ j : Int, σ 244 j = 0) (z30 : ∀ j : Int, σ 245 j = 0) (z31 : ∀ j : Int, σ 246 j = 0) (z32 : ∀ j : Int, σ 247 j = 0) (z33 : ∀ j : Int, σ 248 j = 0) (z34 : ∀ j : Int, σ 249 j = 0) (z35 : ∀ j : Int, σ 250 j = 0) (z36 : ∀ j : Int, σ 251 j = 0) (z37 : ∀ j : Int, σ 252 j = 0) (z38 : ∀ j : Int, σ 253 j = 0) (z39 : ∀ j : Int, σ 254 j = 0) (z40 : ∀ j : Int, σ 255 j = 0) (z41 : ∀ j : Int, σ 256 j = 0) (q : Q (w_X12 σ)) : f_X12_init σ Q := by
  unfold f_X12_init
  refine ⟨fun j => z1 j, ?_⟩
  intro σ1 e1; subst e1
  intro σ1 e1; subst e1
  refine ⟨fun j => z2 j, ?_⟩
  intro σ1 e1; subst e1
  refine ⟨fun j => z3 j, ?_⟩
  intro σ1 e1; subst e1
  refine ⟨fun j => z4 j, ?_⟩
  intro σ1 e1; subst e1
  refine ⟨fun j => z5 j, ?_⟩
  intro σ1 e1; subst e1
  refine ⟨fun j => z6 j, ?_⟩
  intro σ1 e1; subst e1
  refine ⟨fun j => z7 j, ?_⟩
  intro σ1 e1; subst e1
  refine ⟨fun j => z8 j, ?_⟩
  intro σ1 e1; subst e1
  refine ⟨fun j => z9 j, ?_⟩
  intro σ1 e1; subst e1
  refine ⟨fun j => z10 j, ?_⟩
  intro σ1 e1; subst e1
  refine ⟨fun j => z11 j, ?_⟩
  intro σ1 e1; subst e1
  refine ⟨fun j => z12 j, ?_⟩
  intro σ1 e1; subst e1
  refine ⟨fun j => z13 j, ?_⟩
  intro σ1 e1; subst e1
  refine ⟨fun j => z14 j, ?_⟩
  intro σ1 e1; subst e1
  refine ⟨fun j => z15 j, ?_⟩
  intro σ1 e1; subst e1
  refine ⟨fun j => z16 j, ?_⟩
  intro σ1 e1; subst e1
  refine ⟨fun j => z17 j, ?_⟩
  intro σ1 e1; subst e1
  refine ⟨fun j => z18 j, ?_⟩
  intro σ1 e1; subst e1
  refine ⟨fun j => z19 j, ?_⟩
  intro σ1 e1; subst e1
  refine ⟨fun j => z20 j, ?_⟩
  intro σ1 e1; subst e1
  refine ⟨fun j => z21 j, ?_⟩
  intro σ1 e1; subst e1
  refine ⟨fun j => z22 j, ?_⟩
  intro σ1 e1; subst e1
  refine ⟨fun j => z23 j, ?_⟩
  intro σ1 e1; subst e1
  refine ⟨fun j => z24 j, ?_⟩
  intro σ1 e1; subst e1
  refine ⟨fun j => z25 j, ?_⟩
  intro σ1 e1; subst e1
  refine ⟨fun j => z26 j, ?_⟩
  intro σ1 e1; subst e1
  refine ⟨fun j => z27 j, ?_⟩
  intro σ1 e1; subst e1
  refine ⟨fun j => z28 j, ?_⟩
  intro σ1 e1; subst e1
  refine ⟨fun j => z29 j, ?_⟩
  intro σ1 e1; subst e1
  refine ⟨fun j => z30 j, ?_⟩
  intro σ1 e1; subst e1
  refine ⟨fun j => z31 j, ?_⟩
  intro σ1 e1; subst e1
  refine ⟨fun j => z32 j, ?_⟩
  intro σ1 e1; subst e1
  refine ⟨fun j => z33 j, ?_⟩
  intro σ1 e1; subst e1
  refine ⟨fun j => z34 j, ?_⟩
  intro σ1 e1; subst e1
  refine ⟨fun j => z35 j, ?_⟩
  intro σ1 e1; subst e1
  refine ⟨fun j => z36 j, ?_⟩
  intro σ1 e1; subst e1
  refine ⟨fun j => z37 j, ?_⟩
  intro σ1 e1; subst e1
  refine ⟨fun j => z38 j, ?_⟩
  intro σ1 e1; subst e1
  refine ⟨fun j => z39 j, ?_⟩
  intro σ1 e1; subst e1
  refine ⟨fun j => z40 j, ?_⟩
  intro σ1 e1; subst e1
  refine ⟨fun j => z41 j, ?_⟩
  intro σ1 e1; subst e1
  refine ⟨rfl, ?_⟩
  intro σ1 e1; subst e1
  refine ⟨rfl, ?_⟩
  intro σ1 e1; subst e1
  refine ⟨rfl, ?_⟩
  intro σ1 e1; subst e1
  refine ⟨rfl, ?_⟩
  intro σ1 e1; subst e1
  refine ⟨rfl, ?_⟩
  intro σ1 e1; subst e1
  refine ⟨rfl, ?_⟩
  intro σ1 e1; subst e1
  refine ⟨rfl, ?_⟩
  intro σ1 e1; subst e1
  refine ⟨rfl, ?_⟩
  intro σ1 e1; subst e1
  refine ⟨rfl, ?_⟩
  intro σ1 e1; subst e1
  refine ⟨rfl, ?_⟩
  intro σ1 e1; subst e1
  refine ⟨rfl, ?_⟩
  intro σ1 e1; subst e1
  refine ⟨rfl, ?_⟩
  intro σ1 e1; subst e1
  refine ⟨rfl, ?_⟩
  intro σ1 e1; subst e1
  refine ⟨rfl, ?_⟩
  intro σ1 e1; subst e1
  refine ⟨rfl, ?_⟩
  intro σ1 e1; subst e1
  refine ⟨rfl, ?_⟩
  intro σ1 e1; subst e1
  exact q
def ml_S0 : ml_St := fun _ _ => 0
def ml_S1 : ml_St := w_X11 ml_S0
def ml_S2 : ml_St := w_X12 ml_S1
theorem ml_rof_in {k j : Int} (h : ml_rof k j ≠ 0) : 0 ≤ j ∧ j < 62 := by
  unfold ml_rof ml_rofT at h
  split at h <;> (repeat (first | omega | split at h))

theorem ml_rof_lo {k j : Int} (h : ml_rof k j ≠ 0) (hk : k ≤ 214) (h1 : 1 ≤ k) : j < 16 := by
  have h2 := ml_rof_in h
  have h3 : ∀ i : Nat, i < 214 → ∀ t : Nat, t < 62 → 16 ≤ t → ml_rof ((i : Int) + 1) (t : Int) = 0 := by decide +kernel
  by_cases hj : j < 16
  · exact hj
  · have := h3 (k - 1).toNat (by omega) j.toNat (by omega) (by omega)
    rw [show (((k - 1).toNat : Nat) : Int) + 1 = k by omega, Int.toNat_of_nonneg h2.1] at this
    exact absurd this h
theorem ml_roA : ∀ i : Nat, i < 214 → ∀ t : Nat, t < 16 → ml_rof ((i : Int) + 1) (t : Int) = 0 ∨ w_X11a ml_S0 ((i : Int) + 1) (t : Int) = ml_rof ((i : Int) + 1) (t : Int) := by decide +kernel
theorem ml_RO1 : ml_RO 214 (w_X11a ml_S0) := by
  intro k j h1 h2 h3
  have h4 := ml_rof_in h3
  have h5 := ml_rof_lo h3 h2 h1
  have := ml_roA (k - 1).toNat (by omega) j.toNat (by omega)
  rw [show (((k - 1).toNat : Nat) : Int) + 1 = k by omega, Int.toNat_of_nonneg h4.1] at this
  rcases this with q | q
  · exact absurd q h3
  · exact q
theorem ml_roB : ∀ i : Nat, i < 214 → ∀ t : Nat, t < 16 → ml_rof ((i : Int) + 1) (t : Int) = 0 ∨ ml_S2 ((i : Int) + 1) (t : Int) = ml_rof ((i : Int) + 1) (t : Int) := by decide +kernel
theorem ml_roC : ∀ i : Nat, i < 42 → ∀ t : Nat, t < 62 → ml_rof ((i : Int) + 215) (t : Int) = 0 ∨ ml_S2 ((i : Int) + 215) (t : Int) = ml_rof ((i : Int) + 215) (t : Int) := by decide +kernel
theorem ml_RO2 : ml_RO 256 ml_S2 := by
  intro k j h1 h2 h3
  have h4 := ml_rof_in h3
  have q : ml_rof k j = 0 ∨ ml_S2 k j = ml_rof k j := by
    by_cases hk : k ≤ 214
    · have h5 := ml_rof_lo h3 hk h1
      have := ml_roB (k - 1).toNat (by omega) j.toNat (by omega)
      rwa [show (((k - 1).toNat : Nat) : Int) + 1 = k by omega, Int.toNat_of_nonneg h4.1] at this
    · have := ml_roC (k - 215).toNat (by omega) j.toNat (by omega)
      rwa [show (((k - 215).toNat : Nat) : Int) + 215 = k by omega, Int.toNat_of_nonneg h4.1] at this
  rcases q with q | q
  · exact absurd q h3
  · exact q
set_option maxRecDepth 100000 in
set_option maxHeartbeats 8000000 in
theorem s_both {Q : ml_St → Prop} (q : Q ml_S2) : (∀ j : Int, ml_S0 1 j = 0) ∧ f_X11_init ml_S0 (fun σ2 => (∀ j : Int, σ2 215 j = 0) ∧ f_X12_init σ2 Q) := by
  refine ⟨fun _ => rfl, s_X11_init (fun _ => rfl) (fun _ => rfl) (fun _ => rfl) (fun _ => rfl) (fun _ => rfl) (fun _ => rfl) (fun _ => rfl) (fun _ => rfl) (fun _ => rfl) (fun _ => rfl) (fun _ => rfl) (fun _ => rfl) (fun _ => rfl) (fun _ => rfl) (fun _ => rfl) (fun _ => rfl) (fun _ => rfl) (fun _ => rfl) (fun _ => rfl) (fun _ => rfl) (fun _ => rfl) (fun _ => rfl) (fun _ => rfl) (fun _ => rfl) (fun _ => rfl) (fun _ => rfl) (fun _ => rfl) (fun _ => rfl) (fun _ => rfl) (fun _ => rfl) (fun _ => rfl) (fun _ => rfl) (fun _ => rfl) (fun _ => rfl) (fun _ => rfl) (fun _ => rfl) (fun _ => rfl) (fun _ => rfl) (fun _ => rfl) (fun _ => rfl) (fun _ => rfl) (fun _ => rfl) (fun _ => rfl) (fun _ => rfl) (fun _ => rfl) (fun _ => rfl) (fun _ => rfl) (fun _ => rfl) (fun _ => rfl) (fun _ => rfl) (fun _ => rfl) (fun _ => rfl) (fun _ => rfl) (fun _ => rfl) (fun _ => rfl) (fun _ => rfl) (fun _ => rfl) (fun _ => rfl) (fun _ => rfl) (fun _ => rfl) (fun _ => rfl) (fun _ => rfl) (fun _ => rfl) (fun _ => rfl) (fun _ => rfl) (fun _ => rfl) (fun _ => rfl) (fun _ => rfl) (fun _ => rfl) (fun _ => rfl) (fun _ => rfl) (fun _ => rfl) (fun _ => rfl) (fun _ => rfl) (fun _ => rfl) (fun _ => rfl) (fun _ => rfl) (fun _ => rfl) (fun _ => rfl) (fun _ => rfl) (fun _ => rfl) (fun _ => rfl) (fun _ => rfl) (fun _ => rfl) (fun _ => rfl) (fun _ => rfl) (fun _ => rfl) (fun _ => rfl) (fun _ => rfl) (fun _ => rfl) (fun _ => rfl) (fun _ => rfl) (fun _ => rfl) (fun _ => rfl) (fun _ => rfl) (fun _ => rfl) (fun _ => rfl) (fun _ => rfl) (fun _ => rfl) (fun _ => rfl) (fun _ => rfl) (fun _ => rfl) (fun _ => rfl) (fun _ => rfl) (fun _ => rfl) (fun _ => rfl) (fun _ => rfl) (fun _ => rfl) (fun _ => rfl) (fun _ => rfl) (fun _ => rfl) (fun _ => rfl) (fun _ => rfl) (fun _ => rfl) (fun _ => rfl) (fun _ => rfl) (fun _ => rfl) (fun _ => rfl) (fun _ => rfl) (fun _ => rfl) (fun _ => rfl) (fun _ => rfl) (fun _ => rfl) (fun _ => rfl) (fun _ => rfl) (fun _ => rfl) (fun _ => rfl) (fun _ => rfl) (fun _ => rfl) (fun _ => rfl) (fun _ => rfl) (fun _ => rfl) (fun _ => rfl) (fun _ => rfl) (fun _ => rfl) (fun _ => rfl) (fun _ => rfl) (fun _ => rfl) (fun _ => rfl) (fun _ => rfl) (fun _ => rfl) (fun _ => rfl) (fun _ => rfl) (fun _ => rfl) (fun _ => rfl) (fun _ => rfl) (fun _ => rfl) (fun _ => rfl) (fun _ => rfl) (fun _ => rfl) (fun _ => rfl) (fun _ => rfl) (fun _ => rfl) (fun _ => rfl) (fun _ => rfl) (fun _ => rfl) (fun _ => rfl) (fun _ => rfl) (fun _ => rfl) (fun _ => rfl) (fun _ => rfl) (fun _ => rfl) (fun _ => rfl) (fun _ => rfl) (fun _ => rfl) (fun _ => rfl) (fun _ => rfl) (fun _ => rfl) (fun _ => rfl) (fun _ => rfl) (fun _ => rfl) (fun _ => rfl) (fun _ => rfl) (fun _ => rfl) (fun _ => rfl) (fun _ => rfl) (fun _ => rfl) (fun _ => rfl) (fun _ => rfl) (fun _ => rfl) (fun _ => rfl) (fun _ => rfl) (fun _ => rfl) (fun _ => rfl) (fun _ => rfl) (fun _ => rfl) (fun _ => rfl) (fun _ => rfl) (fun _ => rfl) (fun _ => rfl) (fun _ => rfl) (fun _ => rfl) (fun _ => rfl) (fun _ => rfl) (fun _ => rfl) (fun _ => rfl) (fun _ => rfl) (fun _ => rfl) (fun _ => rfl) (fun _ => rfl) (fun _ => rfl) (fun _ => rfl) (fun _ => rfl) (fun _ => rfl) (fun _ => rfl) (fun _ => rfl) (fun _ => rfl) (fun _ => rfl) (fun _ => rfl) (fun _ => rfl) (fun _ => rfl) (fun _ => rfl) (fun _ => rfl) ml_RO1 ?_⟩
  exact ⟨fun _ => rfl, s_X12_init (fun _ => rfl) (fun _ => rfl) (fun _ => rfl) (fun _ => rfl) (fun _ => rfl) (fun _ => rfl) (fun _ => rfl) (fun _ => rfl) (fun _ => rfl) (fun _ => rfl) (fun _ => rfl) (fun _ => rfl) (fun _ => rfl) (fun _ => rfl) (fun _ => rfl) (fun _ => rfl) (fun _ => rfl) (fun _ => rfl) (fun _ => rfl) (fun _ => rfl) (fun _ => rfl) (fun _ => rfl) (fun _ => rfl) (fun _ => rfl) (fun _ => rfl) (fun _ => rfl) (fun _ => rfl) (fun _ => rfl) (fun _ => rfl) (fun _ => rfl) (fun _ => rfl) (fun _ => rfl) (fun _ => rfl) (fun _ => rfl) (fun _ => rfl) (fun _ => rfl) (fun _ => rfl) (fun _ => rfl) (fun _ => rfl) (fun _ => rfl) (fun _ => rfl) q⟩
