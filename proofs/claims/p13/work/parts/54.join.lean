/-! a thread followed: its length, the rails that it meets -/
def mt_R (h : Int) (ra rb : Int → Int) (x : Int) : Int := if x < 2 * h then ra x else rb (x - 2 * h)
def mt_rl (h y : Int) : Int := if y < 2 * h then y - h else y - 2 * h
def mt_sum (h : Int) (a b ra rb : Int → Int) : Nat → Int → Int → Int
  | 0, x, acc => w64 (acc + mt_R h ra rb x)
  | n + 1, x, acc => if h ≤ mt_P h a b x ∧ mt_P h a b x < 3 * h then mt_sum h a b ra rb n (mt_J h (mt_P h a b x)) (w64 (acc + mt_R h ra rb x)) else w64 (acc + mt_R h ra rb x)
def mt_met (h : Int) (a b : Int → Int) : Nat → Int → Int → Int
  | 0, _, m => m
  | n + 1, x, m => if h ≤ mt_P h a b x ∧ mt_P h a b x < 3 * h then mt_met h a b n (mt_J h (mt_P h a b x)) (b_or m (b_shl 1 (mt_rl h (mt_P h a b x)))) else m
theorem mt_met_out {h : Int} {a b : Int → Int} {F : Nat} {x m : Int} (ho : ¬ mt_in h (mt_P h a b x)) : mt_met h a b F x m = m := by
  cases F with
  | zero => rfl
  | succ F => unfold mt_met; exact if_neg ho
theorem mt_sum_out {h : Int} {a b ra rb : Int → Int} {F : Nat} {x acc : Int} (ho : ¬ mt_in h (mt_P h a b x)) : mt_sum h a b ra rb F x acc = w64 (acc + mt_R h ra rb x) := by
  cases F with
  | zero => rfl
  | succ F => unfold mt_sum; exact if_neg ho
theorem mt_met_in {h : Int} {a b : Int → Int} {F : Nat} {x m : Int} (hi : mt_in h (mt_P h a b x)) : mt_met h a b (F + 1) x m = mt_met h a b F (mt_J h (mt_P h a b x)) (b_or m (b_shl 1 (mt_rl h (mt_P h a b x)))) := by
  conv => lhs; unfold mt_met
  exact if_pos hi
theorem mt_sum_in {h : Int} {a b ra rb : Int → Int} {F : Nat} {x acc : Int} (hi : mt_in h (mt_P h a b x)) : mt_sum h a b ra rb (F + 1) x acc = mt_sum h a b ra rb F (mt_J h (mt_P h a b x)) (w64 (acc + mt_R h ra rb x)) := by
  conv => lhs; unfold mt_sum
  exact if_pos hi
theorem mt_W_shift {h : Int} {a b : Int → Int} {n : Nat} {w : Nat → Int} {s x : Int} (hw : mt_W h a b (n + 1) w s x) : mt_in h (mt_P h a b s) ∧ mt_W h a b n (fun i => w (i + 1)) (mt_J h (mt_P h a b s)) x := by
  obtain ⟨g1, g2⟩ := hw.2.1 0 (by omega)
  rw [hw.1] at g1 g2
  exact ⟨g1, g2, fun i hi => hw.2.1 (i + 1) (by omega), hw.2.2.1, hw.2.2.2⟩
/-- the class's loop: x6 is the end, x9 says whether it is a's -/
def mt_x (h at_ inA : Int) : Int := if inA = 0 then 2 * h + at_ else at_
theorem s_joinFrom_L {Q : Int → ml_St → Prop} {K : ml_St → Int → Int → Int → Int → Prop} {th p2 p3 h x1 : Int} {σ : ml_St} (h2 : 2 ≤ h) (h5 : h ≤ 5) (ha : mt_M h (σ (p2 + 1))) (hb : mt_M h (σ (p3 + 1))) : ∀ (n : Nat) (F N : Nat) (w : Nat → Int) (x : Int) (x5 x6 x7 x9 x11 : Int), mt_W h (σ (p2 + 1)) (σ (p3 + 1)) n w (mt_x h x6 x9) x → 0 ≤ x6 → x6 < 2 * h → (x9 = 0 ∨ x9 = 1) → n ≤ F → n + 1 < N → 0 ≤ x11 → x11 + n ≤ 10 →
    K σ x1 (mt_met h (σ (p2 + 1)) (σ (p3 + 1)) F (mt_x h x6 x9) x5) (mt_e h x) (mt_sum h (σ (p2 + 1)) (σ (p3 + 1)) (σ (p2 + 2)) (σ (p3 + 2)) F (mt_x h x6 x9) x7) → f_X9_joinFrom_u28 Q K th p2 p3 N σ x1 h x5 x6 x7 x9 1 x11 := by
  -- one round: the end y = in.pair[x6], then on by u87
  have one : ∀ (N : Nat) (x5 x6 x7 x9 x11 : Int), 0 ≤ x6 → x6 < 2 * h → (x9 = 0 ∨ x9 = 1) → 0 ≤ x11 → x11 ≤ 10 →
      (∀ y, (x9 = 1 → y = σ (p2 + 1) x6 ∧ mt_P h (σ (p2 + 1)) (σ (p3 + 1)) (mt_x h x6 x9) = y) → (x9 = 0 → y = σ (p3 + 1) x6 ∧ mt_P h (σ (p2 + 1)) (σ (p3 + 1)) (mt_x h x6 x9) = 2 * h + y) → 0 ≤ y → y < 2 * h →
        f_X9_joinFrom_u87 Q (f_X9_joinFrom_u28 Q K th p2 p3 N) th p2 p3 σ x1 h x5 y (w64 (x7 + mt_R h (σ (p2 + 2)) (σ (p3 + 2)) (mt_x h x6 x9))) x9 x11 (if y < h then 0 else 1)) →
      f_X9_joinFrom_u28 Q K th p2 p3 (N + 1) σ x1 h x5 x6 x7 x9 1 x11 := by
    intro N x5 x6 x7 x9 x11 h0 h1 h9 h11 hb11 k
    unfold f_X9_joinFrom_u28
    refine ⟨fun c => absurd c (by omega), fun _ => ⟨fun c => absurd c (by omega), fun _ => ⟨fun c => ?_, fun c => ?_⟩⟩⟩
    · subst c
      obtain ⟨g1, g2, g3, g4⟩ := hb x6 h0 h1
      have e1 : mt_x h x6 0 = 2 * h + x6 := by unfold mt_x; rw [if_pos rfl]
      have e2 : mt_P h (σ (p2 + 1)) (σ (p3 + 1)) (2 * h + x6) = 2 * h + σ (p3 + 1) x6 := by unfold mt_P; rw [if_neg (by omega), show 2 * h + x6 - 2 * h = x6 by omega]
      have e3 : mt_R h (σ (p2 + 2)) (σ (p3 + 2)) (2 * h + x6) = σ (p3 + 2) x6 := by unfold mt_R; rw [if_neg (by omega), show 2 * h + x6 - 2 * h = x6 by omega]
      have k2 := k (σ (p3 + 1) x6) (fun c => absurd c (by omega)) (fun _ => ⟨rfl, by rw [e1, e2]⟩) g1 g2
      rw [e1, e3] at k2
      unfold f_X9_joinFrom_u50
      refine ⟨h0, by omega, fun _ y3 ey3 => ⟨h0, by omega, fun _ y5 ey5 => ⟨fun c => ?_, fun c => ?_⟩⟩⟩
      · subst ey3; subst ey5; rw [if_pos c] at k2; exact k2
      · subst ey3; subst ey5; rw [if_neg c] at k2; exact k2
    · have h91 : x9 = 1 := by omega
      subst h91
      obtain ⟨g1, g2, g3, g4⟩ := ha x6 h0 h1
      have e1 : mt_x h x6 1 = x6 := by unfold mt_x; rw [if_neg (by omega)]
      have e2 : mt_P h (σ (p2 + 1)) (σ (p3 + 1)) x6 = σ (p2 + 1) x6 := by unfold mt_P; rw [if_pos h1]
      have e3 : mt_R h (σ (p2 + 2)) (σ (p3 + 2)) x6 = σ (p2 + 2) x6 := by unfold mt_R; rw [if_pos h1]
      have k2 := k (σ (p2 + 1) x6) (fun _ => ⟨rfl, by rw [e1, e2]⟩) (fun c => absurd c (by omega)) g1 g2
      rw [e1, e3] at k2
      unfold f_X9_joinFrom_u50
      refine ⟨h0, by omega, fun _ y3 ey3 => ⟨h0, by omega, fun _ y5 ey5 => ⟨fun c => ?_, fun c => ?_⟩⟩⟩
      · subst ey3; subst ey5; rw [if_pos c] at k2; exact k2
      · subst ey3; subst ey5; rw [if_neg c] at k2; exact k2
  intro n
  induction n with
  | zero =>
    intro F N w x x5 x6 x7 x9 x11 hw h0 h1 h9 hF hN h11 hb11 k
    obtain ⟨N, rfl⟩ : ∃ N', N = N' + 2 := ⟨N - 2, by omega⟩
    have hx : x = mt_P h (σ (p2 + 1)) (σ (p3 + 1)) (mt_x h x6 x9) := by rw [hw.2.2.1, hw.1]
    have ho : ¬ mt_in h (mt_P h (σ (p2 + 1)) (σ (p3 + 1)) (mt_x h x6 x9)) := hx ▸ hw.2.2.2
    rw [mt_met_out ho, mt_sum_out ho, hx] at k
    refine one (N + 1) x5 x6 x7 x9 x11 h0 h1 h9 h11 (by omega) (fun y yA yB y0 y2 => ?_)
    have go : ∀ acc, K σ x1 x5 y acc → f_X9_joinFrom_u97 Q (f_X9_joinFrom_u28 Q K th p2 p3 (N + 1)) th p2 p3 σ x1 h x5 y acc x9 x11 0 := by
      intro acc hk
      unfold f_X9_joinFrom_u97
      refine ⟨fun _ => ⟨⟨by omega, by omega⟩, fun y1 _ => ?_⟩, fun c => absurd rfl c⟩
      unfold f_X9_joinFrom_u28
      exact ⟨fun _ => hk, fun c => absurd rfl c⟩
    unfold f_X9_joinFrom_u87
    rcases h9 with q | q
    · obtain ⟨e1, e2⟩ := yB q
      rw [e2] at ho k
      have hy : ¬ y < h := fun c => ho ⟨by omega, by omega⟩
      rw [if_neg hy, q]
      have e3 : mt_e h (2 * h + y) = y := by unfold mt_e; rw [if_neg (by omega)]; omega
      rw [e3] at k
      subst q
      exact ⟨fun _ => go _ k, fun c => absurd c (by omega)⟩
    · obtain ⟨e1, e2⟩ := yA q
      rw [e2] at ho k
      have hy : y < h := by
        rcases Int.lt_or_le y h with c | c
        · exact c
        · exact absurd (show mt_in h y from ⟨c, by omega⟩) ho
      rw [if_pos hy, q]
      have e3 : mt_e h y = y := by unfold mt_e; rw [if_pos hy]
      rw [e3] at k
      subst q
      exact ⟨fun _ => go _ k, fun c => absurd c (by omega)⟩
  | succ n ih =>
    intro F N w x x5 x6 x7 x9 x11 hw h0 h1 h9 hF hN h11 hb11 k
    obtain ⟨N, rfl⟩ : ∃ N', N = N' + 1 := ⟨N - 1, by omega⟩
    obtain ⟨F, rfl⟩ : ∃ F', F = F' + 1 := ⟨F - 1, by omega⟩
    obtain ⟨hi, hw2⟩ := mt_W_shift hw
    rw [mt_met_in hi, mt_sum_in hi] at k
    refine one N x5 x6 x7 x9 x11 h0 h1 h9 h11 (by omega) (fun y yA yB y0 y2 => ?_)
    unfold f_X9_joinFrom_u87
    rcases h9 with q | q
    · obtain ⟨e1, e2⟩ := yB q
      rw [e2] at hi k hw2
      have hy : y < h := by have := hi.2; omega
      rw [if_pos hy]
      subst q
      have ex : mt_x h (y + h) 1 = mt_J h (2 * h + y) := by unfold mt_x mt_J; rw [if_neg (by omega), if_neg (by omega)]; omega
      have er : mt_rl h (2 * h + y) = y := by unfold mt_rl; rw [if_neg (by omega)]; omega
      refine ⟨fun c => absurd rfl c, fun _ => ⟨fun c => absurd c (by omega), fun _ => ⟨fun _ => ?_, fun c => absurd rfl c⟩⟩⟩
      unfold f_X9_joinFrom_u119
      intro y1 ey1
      refine ⟨fun _ => ⟨⟨by omega, by omega⟩, ⟨fun c => absurd rfl c, fun _ => ⟨⟨by omega, by omega⟩, fun y9 e9 => ?_⟩⟩⟩, fun c => absurd rfl c⟩
      subst ey1; subst e9
      rw [er, ← ex] at k
      rw [← ex] at hw2
      exact ih F N _ x _ _ _ 1 _ hw2 (by omega) (by omega) (Or.inr rfl) (by omega) (by omega) (by omega) (by omega) k
    · obtain ⟨e1, e2⟩ := yA q
      rw [e2] at hi k hw2
      have hy : ¬ y < h := by have := hi.1; omega
      rw [if_neg hy]
      subst q
      have ex : mt_x h (y - h) 0 = mt_J h y := by unfold mt_x mt_J; rw [if_pos rfl, if_pos (by omega)]; omega
      have er : mt_rl h y = y - h := by unfold mt_rl; rw [if_pos (by omega)]
      refine ⟨fun c => absurd rfl c, fun _ => ⟨fun c => absurd c (by omega), fun _ => ⟨fun c => absurd c (by omega), fun _ => ⟨⟨by omega, by omega⟩, ?_⟩⟩⟩⟩
      unfold f_X9_joinFrom_u119
      intro y1 ey1
      refine ⟨fun c => absurd c (by omega), fun _ => ⟨fun _ => ⟨⟨by omega, by omega⟩, fun y9 e9 => ?_⟩, fun c => absurd c (by omega)⟩⟩
      subst ey1; subst e9
      rw [er, ← ex] at k
      rw [← ex] at hw2
      exact ih F N _ x _ _ _ 0 _ hw2 (by omega) (by omega) (Or.inl rfl) (by omega) (by omega) (by omega) (by omega) k
theorem s_joinFrom {Q : Int → ml_St → Prop} {th p2 p3 h x1 : Int} {σ : ml_St} (h2 : 2 ≤ h) (h5 : h ≤ 5) (ha : mt_M h (σ (p2 + 1))) (hb : mt_M h (σ (p3 + 1))) (h0 : 0 ≤ x1) (h1 : x1 < 2 * h)
    (q : Q (mt_met h (σ (p2 + 1)) (σ (p3 + 1)) 10 (mt_s h x1) 0) (ml_up (ml_up σ (th + 1) x1 (mt_prod h (σ (p2 + 1)) (σ (p3 + 1)) x1)) (th + 2) x1 (mt_sum h (σ (p2 + 1)) (σ (p3 + 1)) (σ (p2 + 2)) (σ (p3 + 2)) 10 (mt_s h x1) 0))) : f_X9_joinFrom σ th p2 p3 x1 h Q := by
  obtain ⟨s1, s2, s3⟩ := mt_s_all h0 h1
  obtain ⟨n, x, hw, hn, hx⟩ := mt_exist ha hb s1 s2
  have e1 : mt_prod h (σ (p2 + 1)) (σ (p3 + 1)) x1 = mt_e h x := by unfold mt_prod; rw [mt_out_W n 10 _ _ x hw (by omega)]
  rw [e1] at q
  have go : ∀ i : Int, (i = 0 ∨ i = 1) → mt_x h x1 i = mt_s h x1 → f_X9_joinFrom_u20 Q th p2 p3 σ x1 h 0 x1 0 i := by
    intro i hi ei
    unfold f_X9_joinFrom_u20
    refine ⟨n + 2, s_joinFrom_L h2 h5 ha hb n 10 (n + 2) (mt_it h (σ (p2 + 1)) (σ (p3 + 1)) (mt_s h x1)) x 0 x1 0 i 0 (by rw [ei]; exact hw) h0 h1 hi (by omega) (by omega) (by omega) (by omega) ?_⟩
    rw [ei]
    unfold f_X9_joinFrom_u165
    exact ⟨h0, by omega, fun σ1 g1 => ⟨h0, by omega, fun σ2 g2 => by subst g1; subst g2; exact q⟩⟩
  unfold f_X9_joinFrom f_X9_joinFrom_u0
  refine ⟨fun c => go 0 (Or.inl rfl) ?_, fun c => go 1 (Or.inr rfl) ?_⟩
  · unfold mt_x mt_s; rw [if_pos rfl, if_neg (by omega)]
  · unfold mt_x mt_s; rw [if_neg (by omega), if_pos (by omega)]
