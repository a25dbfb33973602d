/-! the model's thread: leads -/
def mt_lead (h : Int) (a b ra rb : Int → Int) : Nat → Int → ml_St → ml_St
  | 0, x, τ => ml_up τ 215 27 (w64 (τ 215 27 + mt_R h ra rb x))
  | n + 1, x, τ => if h ≤ mt_P h a b x ∧ mt_P h a b x < 3 * h then mt_lead h a b ra rb n (mt_J h (mt_P h a b x)) (ml_up (ml_up τ 215 27 (w64 (τ 215 27 + mt_R h ra rb x))) 232 (mt_rl h (mt_P h a b x)) 1) else ml_up τ 215 27 (w64 (τ 215 27 + mt_R h ra rb x))
theorem mt_lead_out {h : Int} {a b ra rb : Int → Int} {F : Nat} {x : Int} {τ : ml_St} (ho : ¬ mt_in h (mt_P h a b x)) : mt_lead h a b ra rb F x τ = ml_up τ 215 27 (w64 (τ 215 27 + mt_R h ra rb x)) := by
  cases F with
  | zero => rfl
  | succ F => unfold mt_lead; exact if_neg ho
theorem mt_lead_in {h : Int} {a b ra rb : Int → Int} {F : Nat} {x : Int} {τ : ml_St} (hi : mt_in h (mt_P h a b x)) : mt_lead h a b ra rb (F + 1) x τ = mt_lead h a b ra rb F (mt_J h (mt_P h a b x)) (ml_up (ml_up τ 215 27 (w64 (τ 215 27 + mt_R h ra rb x))) 232 (mt_rl h (mt_P h a b x)) 1) := by
  conv => lhs; unfold mt_lead
  exact if_pos hi
theorem s_leads_L {Q : Int → ml_St → Prop} {K : ml_St → Int → Prop} {x1 x2 h : Int} {a b ra rb : Int → Int} (h2 : 2 ≤ h) (h5 : h ≤ 5) (r1 : 0 ≤ x1) (r2 : x1 < 64) (r3 : 0 ≤ x2) (r4 : x2 < 64) (ha : mt_M h a) (hb : mt_M h b) : ∀ (n : Nat) (F N : Nat) (w : Nat → Int) (x : Int) (x5 x6 : Int) (τ : ml_St), mt_W h a b n w (mt_x h x5 x6) x → 0 ≤ x5 → x5 < 2 * h → (x6 = 0 ∨ x6 = 1) → n ≤ F → n < N →
    τ 215 2 = h → (∀ e, 0 ≤ e → e < 2 * h → τ 227 (10 * x1 + e) = a e ∧ τ 227 (10 * x2 + e) = b e ∧ τ 228 (10 * x1 + e) = ra e ∧ τ 228 (10 * x2 + e) = rb e) →
    K (mt_lead h a b ra rb F (mt_x h x5 x6) τ) (mt_e h x) → f_X12_leads_u12 Q K N τ x1 x2 x5 x6 := by
  have one : ∀ (N : Nat) (x5 x6 : Int) (τ : ml_St), 0 ≤ x5 → x5 < 2 * h → (x6 = 0 ∨ x6 = 1) → τ 215 2 = h → (∀ e, 0 ≤ e → e < 2 * h → τ 227 (10 * x1 + e) = a e ∧ τ 227 (10 * x2 + e) = b e ∧ τ 228 (10 * x1 + e) = ra e ∧ τ 228 (10 * x2 + e) = rb e) →
      (∀ y, (x6 = 1 → mt_P h a b (mt_x h x5 x6) = y) → (x6 = 0 → mt_P h a b (mt_x h x5 x6) = 2 * h + y) → 0 ≤ y → y < 2 * h →
        f_X12_leads_u77 Q (f_X12_leads_u12 Q K N) K (ml_up τ 215 27 (w64 (τ 215 27 + mt_R h ra rb (mt_x h x5 x6)))) x1 x2 y x6 x6 (if h ≤ y then 0 else 1)) →
      f_X12_leads_u12 Q K (N + 1) τ x1 x2 x5 x6 := by
    intro N x5 x6 τ h0 h1 h6 t2 tA k
    obtain ⟨p1, p2, p3, p4⟩ := tA x5 h0 h1
    have u27 : ∀ v, ml_up τ 215 27 v 215 2 = h := fun v => by rw [ml_up_i (by omega), t2]
    have u227 : ∀ v j, ml_up τ 215 27 v 227 j = τ 227 j := fun v j => by rw [ml_up_k (by omega)]
    unfold f_X12_leads_u12
    refine ⟨fun c => ?_, fun c => ?_⟩
    · subst c
      obtain ⟨g1, g2, g3, g4⟩ := hb x5 h0 h1
      have e1 : mt_x h x5 0 = 2 * h + x5 := by unfold mt_x; rw [if_pos rfl]
      have e2 : mt_P h a b (2 * h + x5) = 2 * h + b x5 := by unfold mt_P; rw [if_neg (by omega), show 2 * h + x5 - 2 * h = x5 by omega]
      have e3 : mt_R h ra rb (2 * h + x5) = rb x5 := by unfold mt_R; rw [if_neg (by omega), show 2 * h + x5 - 2 * h = x5 by omega]
      have k2 := k (b x5) (fun c => absurd c (by omega)) (fun _ => by rw [e1, e2]) g1 g2
      rw [e1, e3] at k2
      unfold f_X12_leads_u22
      refine fun _ => ⟨⟨by omega, by omega⟩, ⟨by omega, by omega⟩, by omega, by omega, fun _ σ6 e6 => ⟨⟨by omega, by omega⟩, ⟨by omega, by omega⟩, by omega, by omega, fun _ y10 e10 _ => ?_⟩⟩
      rw [p4] at e6
      subst e6
      rw [u227, p2] at e10
      subst e10
      rw [u27]
      refine ⟨fun c => ?_, fun c => ?_⟩
      · rw [if_pos c] at k2; exact k2
      · rw [if_neg c] at k2; exact k2
    · have h61 : x6 = 1 := by omega
      subst h61
      obtain ⟨g1, g2, g3, g4⟩ := ha x5 h0 h1
      have e1 : mt_x h x5 1 = x5 := by unfold mt_x; rw [if_neg (by omega)]
      have e2 : mt_P h a b x5 = a x5 := by unfold mt_P; rw [if_pos h1]
      have e3 : mt_R h ra rb x5 = ra x5 := by unfold mt_R; rw [if_pos h1]
      have k2 := k (a x5) (fun _ => by rw [e1, e2]) (fun c => absurd c (by omega)) g1 g2
      rw [e1, e3] at k2
      unfold f_X12_leads_u22
      refine fun _ => ⟨⟨by omega, by omega⟩, ⟨by omega, by omega⟩, by omega, by omega, fun _ σ6 e6 => ⟨⟨by omega, by omega⟩, ⟨by omega, by omega⟩, by omega, by omega, fun _ y10 e10 _ => ?_⟩⟩
      rw [p3] at e6
      subst e6
      rw [u227, p1] at e10
      subst e10
      rw [u27]
      refine ⟨fun c => ?_, fun c => ?_⟩
      · rw [if_pos c] at k2; exact k2
      · rw [if_neg c] at k2; exact k2
  intro n
  induction n with
  | zero =>
    intro F N w x x5 x6 τ hw h0 h1 h6 hF hN t2 tA k
    obtain ⟨N, rfl⟩ : ∃ N', N = N' + 1 := ⟨N - 1, by omega⟩
    have hx : x = mt_P h a b (mt_x h x5 x6) := by rw [hw.2.2.1, hw.1]
    have ho : ¬ mt_in h (mt_P h a b (mt_x h x5 x6)) := hx ▸ hw.2.2.2
    rw [mt_lead_out ho, hx] at k
    refine one N x5 x6 τ h0 h1 h6 t2 tA (fun y yA yB y0 y2 => ?_)
    unfold f_X12_leads_u77
    rcases h6 with q | q
    · have e2 := yB q
      rw [e2] at ho k
      have hy : h ≤ y := by
        rcases Int.lt_or_le y h with c | c
        · exact absurd (show mt_in h (2 * h + y) from ⟨by omega, by omega⟩) ho
        · exact c
      rw [if_pos hy, q]
      have e3 : mt_e h (2 * h + y) = y := by unfold mt_e; rw [if_neg (by omega)]; omega
      rw [e3] at k
      subst q
      exact ⟨fun c => absurd rfl c, fun _ => k⟩
    · have e2 := yA q
      rw [e2] at ho k
      have hy : ¬ h ≤ y := fun c => ho ⟨c, by omega⟩
      rw [if_neg hy, q]
      have e3 : mt_e h y = y := by unfold mt_e; rw [if_pos (by omega)]
      rw [e3] at k
      subst q
      exact ⟨fun c => absurd rfl c, fun _ => k⟩
  | succ n ih =>
    intro F N w x x5 x6 τ hw h0 h1 h6 hF hN t2 tA k
    obtain ⟨N, rfl⟩ : ∃ N', N = N' + 1 := ⟨N - 1, by omega⟩
    obtain ⟨F, rfl⟩ : ∃ F', F = F' + 1 := ⟨F - 1, by omega⟩
    obtain ⟨hi, hw2⟩ := mt_W_shift hw
    rw [mt_lead_in hi] at k
    refine one N x5 x6 τ h0 h1 h6 t2 tA (fun y yA yB y0 y2 => ?_)
    have w2 : ∀ v r, ml_up (ml_up τ 215 27 v) 232 r 1 215 2 = h := fun v r => by rw [ml_up_k (by omega), ml_up_i (by omega), t2]
    have wA : ∀ v r, (∀ e, 0 ≤ e → e < 2 * h → ml_up (ml_up τ 215 27 v) 232 r 1 227 (10 * x1 + e) = a e ∧ ml_up (ml_up τ 215 27 v) 232 r 1 227 (10 * x2 + e) = b e ∧ ml_up (ml_up τ 215 27 v) 232 r 1 228 (10 * x1 + e) = ra e ∧ ml_up (ml_up τ 215 27 v) 232 r 1 228 (10 * x2 + e) = rb e) := fun v r e he1 he2 => by
      rw [ml_up_k (by omega), ml_up_k (by omega), ml_up_k (by omega), ml_up_k (by omega)]
      exact tA e he1 he2
    unfold f_X12_leads_u77
    rcases h6 with q | q
    · have e2 := yB q
      rw [e2] at hi k hw2
      have hy : ¬ h ≤ y := by have := hi.2; omega
      rw [if_neg hy]
      subst q
      have ex : mt_x h (y + h) 1 = mt_J h (2 * h + y) := by unfold mt_x mt_J; rw [if_neg (by omega), if_neg (by omega)]; omega
      have er : mt_rl h (2 * h + y) = y := by unfold mt_rl; rw [if_neg (by omega)]; omega
      refine ⟨fun _ => ⟨fun _ => ?_, fun c => absurd rfl c⟩, fun c => absurd c (by omega)⟩
      unfold f_X12_leads_u100
      refine ⟨by omega, by omega, fun σ1 g1 => ⟨fun _ _ => ?_, fun c => absurd rfl c⟩⟩
      subst g1
      rw [w2]
      refine ⟨⟨by omega, by omega⟩, ⟨fun c => absurd rfl c, fun _ => ?_⟩⟩
      rw [er, ← ex] at k
      rw [← ex] at hw2
      exact ih F N _ x _ 1 _ hw2 (by omega) (by omega) (Or.inr rfl) (by omega) (by omega) (w2 _ _) (wA _ _) k
    · have e2 := yA q
      rw [e2] at hi k hw2
      have hy : h ≤ y := hi.1
      rw [if_pos hy]
      subst q
      have ex : mt_x h (y - h) 0 = mt_J h y := by unfold mt_x mt_J; rw [if_pos rfl, if_pos (by omega)]; omega
      have er : mt_rl h y = y - h := by unfold mt_rl; rw [if_pos (by omega)]
      refine ⟨fun _ => ⟨fun c => absurd c (by omega), fun _ _ => ?_⟩, fun c => absurd c (by omega)⟩
      rw [ml_up_i (by omega), t2]
      refine ⟨⟨by omega, by omega⟩, ?_⟩
      unfold f_X12_leads_u100
      refine ⟨by omega, by omega, fun σ1 g1 => ⟨fun c => absurd c (by omega), fun _ => ⟨fun _ => ?_, fun c => absurd c (by omega)⟩⟩⟩
      subst g1
      rw [er, ← ex] at k
      rw [← ex] at hw2
      exact ih F N _ x _ 0 _ hw2 (by omega) (by omega) (Or.inl rfl) (by omega) (by omega) (w2 _ _) (wA _ _) k
theorem s_leads {Q : Int → ml_St → Prop} {x1 x2 x3 x4 h : Int} {a b ra rb : Int → Int} {σ : ml_St} (h2 : 2 ≤ h) (h5 : h ≤ 5) (r1 : 0 ≤ x1) (r2 : x1 < 64) (r3 : 0 ≤ x2) (r4 : x2 < 64) (ha : mt_M h a) (hb : mt_M h b) (h0 : 0 ≤ x4) (h1 : x4 < 2 * h) (h3 : x3 = 0 ∨ x3 = 1) (hs : mt_x h x4 x3 = mt_s h x4)
    (t2 : σ 215 2 = h) (tA : ∀ e, 0 ≤ e → e < 2 * h → σ 227 (10 * x1 + e) = a e ∧ σ 227 (10 * x2 + e) = b e ∧ σ 228 (10 * x1 + e) = ra e ∧ σ 228 (10 * x2 + e) = rb e)
    (q : Q (mt_prod h a b x4) (mt_lead h a b ra rb 10 (mt_s h x4) (ml_up σ 215 27 0))) : f_X12_leads σ x1 x2 x3 x4 Q := by
  obtain ⟨s1, s2, s3⟩ := mt_s_all h0 h1
  obtain ⟨n, x, hw, hn, hx⟩ := mt_exist ha hb s1 s2
  have e1 : mt_prod h a b x4 = mt_e h x := by unfold mt_prod; rw [mt_out_W n 10 _ _ x hw (by omega)]
  rw [e1] at q
  unfold f_X12_leads f_X12_leads_u0
  intro σ1 g1
  subst g1
  refine ⟨n + 1, s_leads_L (ra := ra) (rb := rb) h2 h5 r1 r2 r3 r4 ha hb n 10 (n + 1) (mt_it h a b (mt_s h x4)) x x4 x3 _ (by rw [hs]; exact hw) h0 h1 h3 (by omega) (by omega) (by rw [ml_up_i (by omega), t2]) (fun e he1 he2 => ?_) ?_⟩
  · rw [ml_up_k (by omega), ml_up_k (by omega)]
    exact tA e he1 he2
  · rw [hs]
    exact q
