theorem mt_eq_wa {h : Int} {σ : ml_St} {k : Int} {v : Int → Int} (w : mt_wv h σ k v) : mt_eq h (σ (k + 1)) v ∧ mt_eq h (σ (k + 2)) (mt_ln v) := ⟨fun e h0 h1 => (w.1 e h0 h1).1, fun e h0 h1 => (w.1 e h0 h1).2⟩
theorem s_joinFrom2 {Q : Int → ml_St → Prop} {th p2 p3 h x1 : Int} {σ : ml_St} {a b : Int → Int} (h2 : 2 ≤ h) (h5 : h ≤ 5) (ha : mt_M h a) (hb : mt_M h b) (wa : mt_wv h σ p2 a) (wb : mt_wv h σ p3 b) (h0 : 0 ≤ x1) (h1 : x1 < 2 * h)
    (q : Q (mt_met h a b 10 (mt_s h x1) 0) (ml_up (ml_up σ (th + 1) x1 (mt_both h a b x1)) (th + 2) x1 (mt_both h a b (10 + x1)))) : f_X9_joinFrom σ th p2 p3 x1 h Q := by
  obtain ⟨ea, ea2⟩ := mt_eq_wa wa
  obtain ⟨eb, eb2⟩ := mt_eq_wa wb
  obtain ⟨s1, s2, s3⟩ := mt_s_all h0 h1
  refine s_joinFrom h2 h5 (mt_eq_M ea ha) (mt_eq_M eb hb) h0 h1 ?_
  rw [mt_eq_met ea eb _ _ _ s1, mt_eq_sum ea eb ea2 eb2 _ _ _ s1]
  have e1 : mt_prod h (σ (p2 + 1)) (σ (p3 + 1)) x1 = mt_both h a b x1 := by
    rw [mt_eq_both h5 x1 h0 h1]
    unfold mt_prod
    rw [mt_eq_out ea eb _ _ s1]
  have e2 : mt_both h a b (10 + x1) = mt_sum h a b (mt_ln a) (mt_ln b) 10 (mt_s h x1) 0 := by
    unfold mt_both
    rw [if_neg (by omega), if_pos (by omega), show 10 + x1 - 10 = x1 by omega]
  rw [e1, ← e2]
  exact q
def mt_hd (h : Int) (a b : Int → Int) (th : Int) (σ : ml_St) (n : Nat) : Prop := σ th 2 = (mt_rs h a b n).2.1 ∧ σ th 3 = (mt_rs h a b n).2.2.1 ∧ σ th 4 = (mt_rs h a b n).2.2.2 ∧ σ th 5 = mt_both h a b 23 ∧ σ th 6 = mt_both h a b 24 ∧ σ th 7 = mt_both h a b 25
def mt_rows (h : Int) (a b : Int → Int) (th : Int) (σ : ml_St) (n : Int) : Prop := ∀ e, 0 ≤ e → e < n → σ (th + 1) e = mt_both h a b e ∧ σ (th + 2) e = mt_both h a b (10 + e)
theorem s_beBoth_E {Q : ml_St → Prop} {K : ml_St → Int → Int → Prop} {th p2 p3 h : Int} {σ0 : ml_St} {a b : Int → Int} (h2 : 2 ≤ h) (h5 : h ≤ 5) (d2 : th + 3 ≤ p2 ∨ p2 + 3 ≤ th) (d3 : th + 3 ≤ p3 ∨ p3 + 3 ≤ th) (ha : mt_M h a) (hb : mt_M h b) (wa : mt_wv h σ0 p2 a) (wb : mt_wv h σ0 p3 b)
    (k : ∀ σ, mt_fr th σ0 σ → mt_hd h a b th σ 0 → mt_rows h a b th σ (2 * h) → K σ h (mt_mm h a b (2 * h).toNat)) :
    ∀ (N : Nat) (n : Nat) (σ : ml_St), (n : Int) ≤ 2 * h → 2 * h - n < N → mt_fr th σ0 σ → mt_hd h a b th σ 0 → mt_rows h a b th σ n → f_X9_beBoth_u117 Q K th p2 p3 N σ h (mt_mm h a b n) n := by
  intro N
  induction N with
  | zero => intro n σ hn hN; omega
  | succ N ih =>
    intro n σ hn hN f hd hr
    unfold f_X9_beBoth_u117
    refine ⟨⟨by omega, by omega⟩, fun c => ?_, fun c => ?_⟩
    · have : n = (2 * h).toNat := by omega
      subst this
      exact k σ f hd (by rw [show (((2 * h).toNat : Nat) : Int) = 2 * h by omega] at hr; exact hr)
    · refine s_joinFrom2 h2 h5 ha hb (mt_wv_fr f d2 wa) (mt_wv_fr f d3 wb) (by omega) (by omega) ?_
      intro _ y4 e4
      refine ⟨⟨by omega, by omega⟩, fun y5 e5 => ?_⟩
      subst e4; subst e5
      refine ih (n + 1) _ (by omega) (by omega) (mt_fr_t (mt_fr_t f mt_fr_up1) mt_fr_up2) ?_ ?_
      · unfold mt_hd
        rw [ml_up_k (by omega), ml_up_k (by omega)]
        exact hd
      · intro e e0 e1
        by_cases q : e = n
        · subst q
          exact ⟨by rw [ml_up_k (by omega), ml_up_same], ml_up_same _ _ _ _⟩
        · rw [ml_up_k (show th + 1 ≠ th + 2 by omega), ml_up_i q, ml_up_i q, ml_up_k (show th + 2 ≠ th + 1 by omega)]
          exact hr e e0 (by omega)
theorem s_beBoth_R {Q : ml_St → Prop} {K : ml_St → Prop} {th p2 p3 h : Int} {σ0 : ml_St} {a b : Int → Int} (h2 : 2 ≤ h) (h5 : h ≤ 5) (d2 : th + 3 ≤ p2 ∨ p2 + 3 ≤ th) (d3 : th + 3 ≤ p3 ∨ p3 + 3 ≤ th) (ha : mt_M h a) (hb : mt_M h b) (wa : mt_wv h σ0 p2 a) (wb : mt_wv h σ0 p3 b)
    (k : ∀ σ, mt_fr th σ0 σ → mt_hd h a b th σ h.toNat → mt_rows h a b th σ (2 * h) → K σ) :
    ∀ (N : Nat) (n : Nat) (σ : ml_St), (n : Int) ≤ h → h - n < N → mt_fr th σ0 σ → mt_hd h a b th σ n → mt_rows h a b th σ (2 * h) → f_X9_beBoth_u148 Q K th p2 p3 N σ h (mt_rs h a b n).1 n := by
  intro N
  induction N with
  | zero => intro n σ hn hN; omega
  | succ N ih =>
    intro n σ hn hN f hd hr
    have hC := mt_rs_C (by omega) h5 ha hb n hn
    unfold f_X9_beBoth_u148
    refine ⟨fun c => ?_, fun c => ⟨fun d => ?_, fun d => ?_⟩⟩
    · have : n = h.toNat := by omega
      subst this
      exact k σ f hd hr
    · have e : mt_rs h a b (n + 1) = mt_rs h a b n := by
        conv => lhs; unfold mt_rs
        exact if_neg d
      unfold f_X9_beBoth_u178
      refine ⟨⟨by omega, by omega⟩, fun y1 e1 => ?_⟩
      subst e1
      rw [← e]
      exact ih (n + 1) σ (by omega) (by omega) f (by unfold mt_hd; rw [e]; exact hd) hr
    · have e : mt_rs h a b (n + 1) = (b_or (mt_rs h a b n).1 (mt_rg h a b n).1, w64 ((mt_rs h a b n).2.1 + 1), max (mt_rs h a b n).2.2.1 (mt_rg h a b n).2.1, w64 ((mt_rs h a b n).2.2.2 + (mt_rg h a b n).2.1)) := by
        conv => lhs; unfold mt_rs
        exact if_pos d
      refine s_addLoop h2 h5 ha hb (mt_wv_fr f d2 wa) (mt_wv_fr f d3 wb) hC (by omega) (by omega) d ?_
      intro _ _ y4 e4
      unfold f_X9_beBoth_u178
      refine ⟨⟨by omega, by omega⟩, fun y1 e1 => ?_⟩
      subst e4; subst e1
      have e1 : b_or (mt_rs h a b n).1 (mt_rg h a b n).1 = (mt_rs h a b (n + 1)).1 := by rw [e]
      rw [e1]
      obtain ⟨g2, g3, g4, g5, g6, g7⟩ := hd
      refine ih (n + 1) _ (by omega) (by omega) (mt_fr_t (mt_fr_t (mt_fr_t f mt_fr_up) mt_fr_up) mt_fr_up) ?_ ?_
      · unfold mt_hd
        rw [e, ml_up_i (show (2:Int) ≠ 4 by omega), ml_up_i (show (2:Int) ≠ 3 by omega), ml_up_same, ml_up_i (show (3:Int) ≠ 4 by omega), ml_up_same, ml_up_same, ml_up_i (show (5:Int) ≠ 4 by omega), ml_up_i (show (5:Int) ≠ 3 by omega), ml_up_i (show (5:Int) ≠ 2 by omega), ml_up_i (show (6:Int) ≠ 4 by omega), ml_up_i (show (6:Int) ≠ 3 by omega), ml_up_i (show (6:Int) ≠ 2 by omega), ml_up_i (show (7:Int) ≠ 4 by omega), ml_up_i (show (7:Int) ≠ 3 by omega), ml_up_i (show (7:Int) ≠ 2 by omega), g2, g3, g4]
        exact ⟨rfl, rfl, rfl, g5, g6, g7⟩
      · intro e e0 e1
        rw [ml_up_k (show th + 1 ≠ th by omega), ml_up_k (show th + 1 ≠ th by omega), ml_up_k (show th + 1 ≠ th by omega), ml_up_k (show th + 2 ≠ th by omega), ml_up_k (show th + 2 ≠ th by omega), ml_up_k (show th + 2 ≠ th by omega)]
        exact hr e e0 e1
theorem s_beBoth {Q : ml_St → Prop} {th p2 p3 h : Int} {σ : ml_St} {a b : Int → Int} (h2 : 2 ≤ h) (h5 : h ≤ 5) (d2 : th + 3 ≤ p2 ∨ p2 + 3 ≤ th) (d3 : th + 3 ≤ p3 ∨ p3 + 3 ≤ th) (ha : mt_M h a) (hb : mt_M h b) (wa : mt_wv h σ p2 a) (wb : mt_wv h σ p3 b)
    (k : ∀ σ', mt_fr th σ σ' → mt_wv h σ' th (mt_both h a b) → Q σ') : f_X9_beBoth σ th p2 p3 h Q := by
  have n2 : p2 ≠ th := by omega
  have n3 : p3 ≠ th := by omega
  have e20 : mt_both h a b 20 = (mt_rs h a b h.toNat).2.1 := by unfold mt_both; rw [if_neg (by omega), if_neg (by omega), if_pos rfl]
  have e21 : mt_both h a b 21 = (mt_rs h a b h.toNat).2.2.1 := by unfold mt_both; rw [if_neg (by omega), if_neg (by omega), if_neg (by omega), if_pos rfl]
  have e22 : mt_both h a b 22 = (mt_rs h a b h.toNat).2.2.2 := by unfold mt_both; rw [if_neg (by omega), if_neg (by omega), if_neg (by omega), if_neg (by omega), if_pos rfl]
  have e23 : mt_both h a b 23 = w64 (a 23 + min (b 23) (w64 (9000000000000000000 - a 23))) := by unfold mt_both; rw [if_neg (by omega), if_neg (by omega), if_neg (by omega), if_neg (by omega), if_neg (by omega), if_pos rfl]
  have e24 : mt_both h a b 24 = if a 24 = 0 ∧ b 24 = 0 then 0 else 1 := by unfold mt_both; rw [if_neg (by omega), if_neg (by omega), if_neg (by omega), if_neg (by omega), if_neg (by omega), if_neg (by omega), if_pos rfl]
  have e25 : mt_both h a b 25 = if a 25 = 0 ∧ b 25 = 0 then 0 else 1 := by unfold mt_both; rw [if_neg (by omega), if_neg (by omega), if_neg (by omega), if_neg (by omega), if_neg (by omega), if_neg (by omega), if_neg (by omega)]
  obtain ⟨a1, a20, a21, a22, a23, a24, a25⟩ := wa
  obtain ⟨b1, b20, b21, b22, b23, b24, b25⟩ := wb
  unfold f_X9_beBoth f_X9_beBoth_u0
  intro _ _ σ4 f4 _ _ σ7 f7 _ _ σ11 f11 _ _ _ σ17 f17 _
  have p4 : ∀ i, σ4 p2 i = σ p2 i ∧ σ4 p3 i = σ p3 i := fun i => by rw [f4, ml_up_k n2, ml_up_k n3]; exact ⟨rfl, rfl⟩
  have p7 : ∀ i, σ7 p2 i = σ p2 i ∧ σ7 p3 i = σ p3 i := fun i => by rw [f7, ml_up_k n2, ml_up_k n3]; exact p4 i
  have p11 : ∀ i, σ11 p2 i = σ p2 i ∧ σ11 p3 i = σ p3 i := fun i => by rw [f11, ml_up_k n2, ml_up_k n3]; exact p7 i
  have p17 : ∀ i, σ17 p2 i = σ p2 i ∧ σ17 p3 i = σ p3 i := fun i => by rw [f17, ml_up_k n2, ml_up_k n3]; exact p11 i
  have frA : mt_fr th σ σ17 := by
    rw [f17, f11, f7, f4]
    exact mt_fr_t (mt_fr_t (mt_fr_t mt_fr_up mt_fr_up) mt_fr_up) mt_fr_up
  rw [(p17 6).1, (p17 6).2, a24, b24]
  have h2v : σ17 th 2 = w64 (a 20 + b 20) := by
    rw [f17, ml_up_i (by omega), f11, ml_up_i (by omega), f7, ml_up_i (by omega), f4, ml_up_same, a20, b20]
  have h3v : σ17 th 3 = max (a 21) (b 21) := by
    rw [f17, ml_up_i (by omega), f11, ml_up_i (by omega), f7, ml_up_same, (p4 3).1, (p4 3).2, a21, b21]
  have h4v : σ17 th 4 = w64 (a 22 + b 22) := by
    rw [f17, ml_up_i (by omega), f11, ml_up_same, (p7 4).1, (p7 4).2, a22, b22]
  have h5v : σ17 th 5 = mt_both h a b 23 := by
    rw [f17, ml_up_same, (p11 5).1, (p11 5).2, a23, b23, e23]
  -- from the last stores on
  have rest : ∀ s6 s7 : Int, s6 = mt_both h a b 24 → s7 = mt_both h a b 25 → f_X9_beBoth_u108 Q th p2 p3 (ml_up σ17 th 6 s6) h s7 := by
    intro s6 s7 q6 q7
    unfold f_X9_beBoth_u108
    intro σ1 g1
    have fr1 : mt_fr th σ σ1 := by rw [g1]; exact mt_fr_t (mt_fr_t frA mt_fr_up) mt_fr_up
    have hd1 : mt_hd h a b th σ1 0 := by
      unfold mt_hd
      rw [g1, ml_up_i (show (2:Int) ≠ 7 by omega), ml_up_i (show (2:Int) ≠ 6 by omega), ml_up_i (show (3:Int) ≠ 7 by omega), ml_up_i (show (3:Int) ≠ 6 by omega), ml_up_i (show (4:Int) ≠ 7 by omega), ml_up_i (show (4:Int) ≠ 6 by omega), ml_up_i (show (5:Int) ≠ 7 by omega), ml_up_i (show (5:Int) ≠ 6 by omega), ml_up_i (show (6:Int) ≠ 7 by omega), ml_up_same, ml_up_same, h2v, h3v, h4v, h5v]
      exact ⟨rfl, rfl, rfl, rfl, q6, q7⟩
    refine ⟨(2 * h).toNat + 1, ?_⟩
    have wa : mt_wv h σ p2 a := ⟨a1, a20, a21, a22, a23, a24, a25⟩
    have wb : mt_wv h σ p3 b := ⟨b1, b20, b21, b22, b23, b24, b25⟩
    refine s_beBoth_E h2 h5 d2 d3 ha hb wa wb (fun σ2 f2 hd2 r2 => ?_) _ 0 σ1 (by omega) (by omega) fr1 hd1 (fun e e0 e1 => absurd e1 (by omega))
    unfold f_X9_beBoth_u145
    refine ⟨h.toNat + 1, ?_⟩
    refine s_beBoth_R h2 h5 d2 d3 ha hb wa wb (fun σ3 f3 hd3 r3 => ?_) _ 0 σ2 (by omega) (by omega) f2 hd2 r2
    unfold f_X9_beBoth_u184
    refine k σ3 f3 ⟨r3, ?_⟩
    rw [e20, e21, e22]
    exact hd3
  have part7 : ∀ s6 : Int, s6 = mt_both h a b 24 → f_X9_beBoth_u85 Q th p2 p3 σ17 h s6 := by
    intro s6 q6
    unfold f_X9_beBoth_u85
    intro σ1 g1 _
    have e1 : σ1 p2 7 = a 25 := by rw [g1, ml_up_k n2, (p17 7).1, a25]
    have e2 : σ1 p3 7 = b 25 := by rw [g1, ml_up_k n3, (p17 7).2, b25]
    rw [e1, e2]
    subst g1
    refine ⟨fun c => ?_, fun c _ => ⟨fun d => ?_, fun d => ?_⟩⟩
    · unfold f_X9_beBoth_u103
      exact rest s6 1 q6 (by rw [e25, if_neg (fun z => c z.1)])
    · exact rest s6 0 q6 (by rw [e25, if_pos ⟨c, d⟩])
    · unfold f_X9_beBoth_u103
      exact rest s6 1 q6 (by rw [e25, if_neg (fun z => d z.2)])
  refine ⟨fun c => ?_, fun c _ => ⟨fun d => ?_, fun d => ?_⟩⟩
  · unfold f_X9_beBoth_u80
    exact part7 1 (by rw [e24, if_neg (fun z => c z.1)])
  · exact part7 0 (by rw [e24, if_pos ⟨c, d⟩])
  · unfold f_X9_beBoth_u80
    exact part7 1 (by rw [e24, if_neg (fun z => d z.2)])
/-! the model: what it lays of two -/
theorem mt_lead_k {h : Int} {a b ra rb : Int → Int} : ∀ (F : Nat) (x : Int) (τ : ml_St), (∀ k, k ≠ 215 → k ≠ 232 → mt_lead h a b ra rb F x τ k = τ k) ∧ (∀ j, j ≠ 27 → mt_lead h a b ra rb F x τ 215 j = τ 215 j) ∧ mt_lead h a b ra rb F x τ 215 27 = mt_sum h a b ra rb F x (τ 215 27) := by
  intro F
  induction F with
  | zero =>
    intro x τ
    unfold mt_lead mt_sum
    exact ⟨fun k h1 h2 => ml_up_k h1, fun j h1 => ml_up_i h1, ml_up_same _ _ _ _⟩
  | succ F ih =>
    intro x τ
    by_cases q : h ≤ mt_P h a b x ∧ mt_P h a b x < 3 * h
    · rw [mt_lead_in q, mt_sum_in q]
      obtain ⟨i1, i2, i3⟩ := ih (mt_J h (mt_P h a b x)) (ml_up (ml_up τ 215 27 (w64 (τ 215 27 + mt_R h ra rb x))) 232 (mt_rl h (mt_P h a b x)) 1)
      refine ⟨fun k h1 h2 => ?_, fun j h1 => ?_, ?_⟩
      · rw [i1 k h1 h2, ml_up_k h2, ml_up_k h1]
      · rw [i2 j h1, ml_up_k (by omega), ml_up_i h1]
      · rw [i3, ml_up_k (by omega), ml_up_same]
    · rw [mt_lead_out q, mt_sum_out q]
      exact ⟨fun k h1 h2 => ml_up_k h1, fun j h1 => ml_up_i h1, ml_up_same _ _ _ _⟩
theorem mt_lead_s {h : Int} {a b ra rb : Int → Int} {r : Int} : ∀ (F : Nat) (x : Int) (τ : ml_St), (mt_hit h a b F x r → mt_lead h a b ra rb F x τ 232 r = 1) ∧ (¬ mt_hit h a b F x r → mt_lead h a b ra rb F x τ 232 r = τ 232 r) := by
  intro F
  induction F with
  | zero =>
    intro x τ
    unfold mt_lead
    exact ⟨fun c => c.elim, fun _ => by rw [ml_up_k (by omega)]⟩
  | succ F ih =>
    intro x τ
    rw [mt_hit_s]
    by_cases q : h ≤ mt_P h a b x ∧ mt_P h a b x < 3 * h
    · rw [mt_lead_in q]
      obtain ⟨i1, i2⟩ := ih (mt_J h (mt_P h a b x)) (ml_up (ml_up τ 215 27 (w64 (τ 215 27 + mt_R h ra rb x))) 232 (mt_rl h (mt_P h a b x)) 1)
      by_cases z : mt_hit h a b F (mt_J h (mt_P h a b x)) r
      · exact ⟨fun _ => i1 z, fun c => absurd ⟨q, Or.inr z⟩ c⟩
      · by_cases y : mt_rl h (mt_P h a b x) = r
        · refine ⟨fun _ => ?_, fun c => absurd ⟨q, Or.inl y⟩ c⟩
          rw [i2 z, y, ml_up_same]
        · refine ⟨fun c => ?_, fun _ => ?_⟩
          · rcases c.2 with d | d
            · exact absurd d y
            · exact absurd d z
          · rw [i2 z, ml_up_i (Ne.symm y), ml_up_k (by omega)]
    · rw [mt_lead_out q]
      exact ⟨fun c => absurd c.1 q, fun _ => by rw [ml_up_k (by omega)]⟩
def mt_mv (h : Int) (τ : ml_St) (m : Int) (v : Int → Int) : Prop := (∀ e, 0 ≤ e → e < 2 * h → τ 227 (10 * m + e) = v e ∧ τ 228 (10 * m + e) = v (10 + e)) ∧ τ 229 m = v 20 ∧ τ 230 m = v 21 ∧ τ 231 m = v 22
/-- all but the model's weave c, the rails seen and the way gone is as it was -/
def mt_mf (c : Int) (τ τ' : ml_St) : Prop := (∀ k, k ≠ 215 → k ≠ 227 → k ≠ 228 → k ≠ 229 → k ≠ 230 → k ≠ 231 → k ≠ 232 → τ' k = τ k) ∧ (∀ j, j ≠ 27 → τ' 215 j = τ 215 j) ∧ (∀ j, (j < 10 * c ∨ 10 * c + 10 ≤ j) → τ' 227 j = τ 227 j ∧ τ' 228 j = τ 228 j) ∧ (∀ j, j ≠ c → τ' 229 j = τ 229 j ∧ τ' 230 j = τ 230 j ∧ τ' 231 j = τ 231 j)
theorem mt_mf_r {c : Int} {τ : ml_St} : mt_mf c τ τ := ⟨fun _ _ _ _ _ _ _ _ => rfl, fun _ _ => rfl, fun _ _ => ⟨rfl, rfl⟩, fun _ _ => ⟨rfl, rfl, rfl⟩⟩
theorem mt_mf_t {c : Int} {τ τ1 τ2 : ml_St} (a : mt_mf c τ τ1) (b : mt_mf c τ1 τ2) : mt_mf c τ τ2 := by
  obtain ⟨a1, a2, a3, a4⟩ := a
  obtain ⟨b1, b2, b3, b4⟩ := b
  refine ⟨fun k g1 g2 g3 g4 g5 g6 g7 => ?_, fun j g => ?_, fun j g => ?_, fun j g => ?_⟩
  · rw [b1 k g1 g2 g3 g4 g5 g6 g7, a1 k g1 g2 g3 g4 g5 g6 g7]
  · rw [b2 j g, a2 j g]
  · rw [(b3 j g).1, (b3 j g).2, (a3 j g).1, (a3 j g).2]; exact ⟨rfl, rfl⟩
  · rw [(b4 j g).1, (b4 j g).2.1, (b4 j g).2.2, (a4 j g).1, (a4 j g).2.1, (a4 j g).2.2]; exact ⟨rfl, rfl, rfl⟩
theorem mt_mf_row {c i v k : Int} {τ : ml_St} (hk : k = 227 ∨ k = 228) (h1 : 10 * c ≤ i) (h2 : i < 10 * c + 10) : mt_mf c τ (ml_up τ k i v) := by
  refine ⟨fun k' g1 g2 g3 g4 g5 g6 g7 => ml_up_k (by omega), fun j g => by rw [ml_up_k (by omega)], fun j g => ?_, fun j g => ?_⟩
  · rw [ml_up_i (by omega), ml_up_i (by omega)]; exact ⟨rfl, rfl⟩
  · rw [ml_up_k (by omega), ml_up_k (by omega), ml_up_k (by omega)]; exact ⟨rfl, rfl, rfl⟩
theorem mt_mf_fld {c v k : Int} {τ : ml_St} (hk : k = 229 ∨ k = 230 ∨ k = 231) : mt_mf c τ (ml_up τ k c v) := by
  refine ⟨fun k' g1 g2 g3 g4 g5 g6 g7 => ml_up_k (by omega), fun j g => by rw [ml_up_k (by omega)], fun j g => ?_, fun j g => ?_⟩
  · rw [ml_up_k (by omega), ml_up_k (by omega)]; exact ⟨rfl, rfl⟩
  · rw [ml_up_i g, ml_up_i g, ml_up_i g]; exact ⟨rfl, rfl, rfl⟩
theorem mt_mf_seen {c i v : Int} {τ : ml_St} : mt_mf c τ (ml_up τ 232 i v) :=
  ⟨fun k' g1 g2 g3 g4 g5 g6 g7 => ml_up_k g7, fun j g => by rw [ml_up_k (by omega)], fun j g => by rw [ml_up_k (by omega), ml_up_k (by omega)]; exact ⟨rfl, rfl⟩, fun j g => by rw [ml_up_k (by omega), ml_up_k (by omega), ml_up_k (by omega)]; exact ⟨rfl, rfl, rfl⟩⟩
theorem mt_mf_went {c v : Int} {τ : ml_St} : mt_mf c τ (ml_up τ 215 27 v) :=
  ⟨fun k' g1 g2 g3 g4 g5 g6 g7 => ml_up_k g1, fun j g => ml_up_i g, fun j g => by rw [ml_up_k (by omega), ml_up_k (by omega)]; exact ⟨rfl, rfl⟩, fun j g => by rw [ml_up_k (by omega), ml_up_k (by omega), ml_up_k (by omega)]; exact ⟨rfl, rfl, rfl⟩⟩
theorem mt_mf_lead {h c : Int} {a b ra rb : Int → Int} {F : Nat} {x : Int} {τ : ml_St} : mt_mf c τ (mt_lead h a b ra rb F x τ) := by
  obtain ⟨l1, l2, l3⟩ := mt_lead_k (h := h) (a := a) (b := b) (ra := ra) (rb := rb) F x τ
  exact ⟨fun k' g1 g2 g3 g4 g5 g6 g7 => l1 _ g1 g7, l2, fun j g => by rw [l1 227 (by omega) (by omega), l1 228 (by omega) (by omega)]; exact ⟨rfl, rfl⟩, fun j g => by rw [l1 229 (by omega) (by omega), l1 230 (by omega) (by omega), l1 231 (by omega) (by omega)]; exact ⟨rfl, rfl, rfl⟩⟩
theorem mt_mv_f {h c m : Int} {τ τ' : ml_St} {v : Int → Int} (h5 : h ≤ 5) (f : mt_mf c τ τ') (d : m ≠ c) (w : mt_mv h τ m v) : mt_mv h τ' m v := by
  obtain ⟨f1, f2, f3, f4⟩ := f
  obtain ⟨w1, w2⟩ := w
  refine ⟨fun e e0 e1 => ?_, ?_⟩
  · obtain ⟨g1, g2⟩ := f3 (10 * m + e) (by omega)
    rw [g1, g2]; exact w1 e e0 e1
  · obtain ⟨g1, g2, g3⟩ := f4 m d
    rw [g1, g2, g3]; exact w2
theorem mt_rg_bit {h : Int} {a b : Int → Int} (h5 : h ≤ 5) {r o t : Int} (r0 : 0 ≤ r) (r1 : r < h) (e1 : b r = o) (e2 : a (o + h) = t + h) (o0 : 0 ≤ o) (o1 : o < h) (t0 : 0 ≤ t) (t1 : t < h) :
    (t = r → ∀ j, 0 ≤ j → j < h → (mb_t (mt_rg h a b r).1 j = 1 ↔ j = r ∨ j = o)) ∧ (t ≠ r → ∀ o2, b t = o2 → a (o2 + h) = r + h → 0 ≤ o2 → o2 < h → ∀ j, 0 ≤ j → j < h → (mb_t (mt_rg h a b r).1 j = 1 ↔ j = r ∨ j = o ∨ j = t ∨ j = o2)) := by
  have sh : ∀ r : Int, 0 ≤ r → r < h → mb_m 5 (b_shl 1 r) ∧ ∀ j : Int, 0 ≤ j → j < 32 → mb_t (b_shl 1 r) j = if j = r then 1 else 0 := fun r r0 r1 => mb_shl_m (k := 5) (by omega) r0 (by omega)
  obtain ⟨so, so2⟩ := sh o o0 o1
  obtain ⟨st, st2⟩ := sh t t0 t1
  obtain ⟨s2, s22⟩ := mb_or_m (k := 5) (by omega) so st
  obtain ⟨s3, s32⟩ := mb_or_m (k := 5) (a := 0) (by omega) ⟨by omega, by omega⟩ s2
  have zero : ∀ j, mb_t 0 j = 0 := mb_0
  have at1 : a (o + h) - h = t := by omega
  refine ⟨fun c j j0 j1 => ?_, fun c o2 f1 f2 p0 p1 j j0 j1 => ?_⟩
  · have er : (mt_rg h a b r).1 = b_or 0 (b_or (b_shl 1 o) (b_shl 1 t)) := by
      unfold mt_rg mt_r1
      rw [e1, at1, if_pos c]
    rw [er, s32 j j0 (by omega), s22 j j0 (by omega), so2 j j0 (by omega), st2 j j0 (by omega), zero]
    by_cases q1 : j = o <;> by_cases q2 : j = t <;> simp [q1, q2, ← c]
  · have er : (mt_rg h a b r).1 = b_or (b_or 0 (b_or (b_shl 1 o) (b_shl 1 t))) (b_or (b_shl 1 o2) (b_shl 1 r)) := by
      unfold mt_rg mt_r1
      rw [e1, at1, if_neg c, f1, show a (o2 + h) - h = r by omega]
    obtain ⟨so', so2'⟩ := sh o2 p0 p1
    obtain ⟨st', st2'⟩ := sh r r0 r1
    obtain ⟨s2', s22'⟩ := mb_or_m (k := 5) (by omega) so' st'
    obtain ⟨s3', s32'⟩ := mb_or_m (k := 5) (by omega) s3 s2'
    rw [er, s32' j j0 (by omega), s22' j j0 (by omega), so2' j j0 (by omega), st2' j j0 (by omega), s32 j j0 (by omega), s22 j j0 (by omega), so2 j j0 (by omega), st2 j j0 (by omega), zero]
    by_cases q1 : j = o <;> by_cases q2 : j = t <;> by_cases q3 : j = o2 <;> by_cases q4 : j = r <;> simp [q1, q2, q3, q4]
theorem s_ring {Q : ml_St → Prop} {x1 x2 x3 h r m : Int} {τ : ml_St} {a b : Int → Int} (h2 : 2 ≤ h) (h5 : h ≤ 5) (r1 : 0 ≤ x1 ∧ x1 < 64) (r2 : 0 ≤ x2 ∧ x2 < 64) (r3 : 0 ≤ x3 ∧ x3 < 64) (th : τ 215 2 = h) (ha : mt_M h a) (hb : mt_M h b) (wa : mt_mv h τ x1 a) (wb : mt_mv h τ x2 b) (d1 : x1 ≠ x3) (d2 : x2 ≠ x3) (hm : mt_C h a b m) (h0 : 0 ≤ r) (h1 : r < h) (hr : mb_t m r = 0)
    (q : ∀ τ', mt_mf x3 τ τ' → τ' 227 = τ 227 → τ' 228 = τ 228 → τ' 229 x3 = w64 (τ 229 x3 + 1) → τ' 230 x3 = max (τ 230 x3) (mt_rg h a b r).2.1 → τ' 231 x3 = w64 (τ 231 x3 + (mt_rg h a b r).2.1) → (∀ j, 0 ≤ j → j < h → (mb_t (mt_rg h a b r).1 j = 1 → τ' 232 j = 1) ∧ (mb_t (mt_rg h a b r).1 j = 0 → τ' 232 j = τ 232 j)) → Q τ') : f_X12_ring τ x1 x2 x3 r Q := by
  obtain ⟨o, t, e1, e2, o0, o1, t0, t1, n1, n2, e3, e4, z1, z2, c⟩ := mt_rg_C h5 ha hb hm h0 h1 hr
  have hI : ∀ x : Int, -1 ≤ x → x < 1000 → I32 x := fun x _ _ => ⟨by omega, by omega⟩
  have at1 : a (o + h) - h = t := by omega
  obtain ⟨bt1, bt2⟩ := mt_rg_bit (a := a) (b := b) h5 h0 h1 e1 e2 o0 o1 t0 t1
  -- one step
  have one : ∀ (N : Nat) (x o t s : Int) (σ : ml_St), mt_mf x3 τ σ → σ 227 = τ 227 → σ 228 = τ 228 → 0 ≤ x → x < h → b x = o → a (o + h) = t + h → 0 ≤ o → o < h → 0 ≤ t → t < h →
      (∀ y, (t = r → y = 0) → (t ≠ r → y = 1) → f_X12_ring_u10 Q (f_X12_ring_u125 Q) N (ml_up (ml_up σ 232 x 1) 232 o 1) x1 x2 x3 r (mt_r1 h a b 0 s x).2.1 t y) → f_X12_ring_u10 Q (f_X12_ring_u125 Q) (N + 1) σ x1 x2 x3 r s x 1 := by
    intro N x o t s σ f fr1 fr2 g0 g1 f1 f2 p0 p1 q0 q1 k
    obtain ⟨b1, b2⟩ := wb.1 x g0 (by omega)
    obtain ⟨a1, a2⟩ := wa.1 (o + h) (by omega) (by omega)
    unfold f_X12_ring_u10
    refine ⟨fun c => absurd c (by omega), fun _ => ⟨g0, by omega, fun σ2 s2 => ?_⟩⟩
    have u227 : σ2 227 = τ 227 := by rw [s2, ml_up_k (by omega), fr1]
    have u228 : σ2 228 = τ 228 := by rw [s2, ml_up_k (by omega), fr2]
    have u215 : σ2 215 2 = h := by rw [s2, ml_up_k (by omega), f.2.1 2 (by omega), th]
    rw [u227, u228, b1, b2, f1]
    refine ⟨hI _ (by omega) (by omega), hI _ (by omega) (by omega), by omega, by omega, fun _ y7 f7 => ⟨hI _ (by omega) (by omega), hI _ (by omega) (by omega), by omega, by omega, fun _ y11 f11 => ?_⟩⟩
    subst f11
    refine ⟨by omega, by omega, fun σ12 s12 => ?_⟩
    have v227 : σ12 227 = τ 227 := by rw [s12, ml_up_k (by omega), u227]
    have v228 : σ12 228 = τ 228 := by rw [s12, ml_up_k (by omega), u228]
    have v215 : σ12 215 2 = h := by rw [s12, ml_up_k (by omega), u215]
    rw [v215, v227, v228, show 10 * x1 + h + y11 = 10 * x1 + (y11 + h) by omega, a1, a2, f2]
    refine ⟨hI _ (by omega) (by omega), fun _ => ⟨hI _ (by omega) (by omega), hI _ (by omega) (by omega), by omega, by omega, fun _ y19 f19 => ⟨hI _ (by omega) (by omega), fun _ => ⟨hI _ (by omega) (by omega), hI _ (by omega) (by omega), by omega, by omega, fun _ _ => ⟨hI _ (by omega) (by omega), fun y27 f27 => ?_⟩⟩⟩⟩⟩
    have e27 : y27 = t := by omega
    have e19 : y19 = (mt_r1 h a b 0 s x).2.1 := by
      rw [f19, f7]
      unfold mt_r1
      rw [f1, w64_al, w64_ar]
      congr 1
      omega
    rw [e19, e27, s12, s2]
    refine ⟨fun c => k 0 (fun _ => rfl) (fun d => absurd c d), fun c => k 1 (fun d => absurd d c) (fun _ => rfl)⟩
  have e17 : (mt_r1 h a b 0 0 r).2.2 = t := by show a (b r + h) - h = t; rw [e1, at1]
  have sumE : ∀ s m m', (mt_r1 h a b m s t).2.1 = (mt_r1 h a b m' s t).2.1 := fun _ _ _ => rfl
  -- the end
  have fin : ∀ (σ : ml_St), mt_mf x3 τ σ → σ 227 = τ 227 → σ 228 = τ 228 → σ 229 = τ 229 → σ 230 = τ 230 → σ 231 = τ 231 → (∀ j, 0 ≤ j → j < h → (mb_t (mt_rg h a b r).1 j = 1 → σ 232 j = 1) ∧ (mb_t (mt_rg h a b r).1 j = 0 → σ 232 j = τ 232 j)) → f_X12_ring_u125 Q σ x3 (mt_rg h a b r).2.1 := by
    intro σ f fr1 fr2 f229 f230 f231 fs
    unfold f_X12_ring_u125
    refine ⟨r3.1, r3.2, fun _ => ⟨r3.1, r3.2, fun σ3 s3 => ⟨r3.1, r3.2, fun _ => ⟨r3.1, r3.2, fun σ6 s6 => ⟨r3.1, r3.2, fun _ => ?_⟩⟩⟩⟩⟩
    have w231 : σ3 231 x3 = τ 231 x3 := by rw [s3, ml_up_k (by omega), f231]
    have w230 : σ6 230 x3 = τ 230 x3 := by rw [s6, ml_up_k (by omega), s3, ml_up_k (by omega), f230]
    have fin2 : ∀ s2, s2 = max (τ 230 x3) (mt_rg h a b r).2.1 → f_X12_ring_u174 Q σ6 x3 s2 := by
      intro s2 es
      unfold f_X12_ring_u174
      refine ⟨r3.1, r3.2, fun σ7 s7 => ?_⟩
      have u : ∀ k, k ≠ 229 → k ≠ 230 → k ≠ 231 → σ7 k = σ k := fun k g1 g2 g3 => by rw [s7, ml_up_k g2, s6, ml_up_k g3, s3, ml_up_k g1]
      refine q σ7 ?_ ?_ ?_ ?_ ?_ ?_ ?_
      · refine mt_mf_t f ?_
        rw [s7, s6, s3]
        exact mt_mf_t (mt_mf_t (mt_mf_fld (by omega)) (mt_mf_fld (by omega))) (mt_mf_fld (by omega))
      · rw [u 227 (by omega) (by omega) (by omega), fr1]
      · rw [u 228 (by omega) (by omega) (by omega), fr2]
      · rw [s7, ml_up_k (by omega), s6, ml_up_k (by omega), s3, ml_up_same, f229]
      · rw [s7, ml_up_same, es]
      · rw [s7, ml_up_k (by omega), s6, ml_up_same, w231]
      · rw [u 232 (by omega) (by omega) (by omega)]; exact fs
    rw [w230]
    exact ⟨fun c => ⟨r3.1, r3.2, fun _ => fin2 _ (by omega)⟩, fun c => fin2 _ (by omega)⟩
  unfold f_X12_ring f_X12_ring_u0
  refine ⟨3, one 2 r o t 0 τ mt_mf_r rfl rfl h0 h1 e1 e2 o0 o1 t0 t1 (fun y y1 y2 => ?_)⟩
  have fr1 : mt_mf x3 τ (ml_up (ml_up τ 232 r 1) 232 o 1) := mt_mf_t mt_mf_seen mt_mf_seen
  rcases c with c | ⟨nc, o2, f1, f2, p0, p1, k1, k2, k3, f3, f4, yy⟩
  · have er : mt_rg h a b r = mt_r1 h a b 0 0 r := by unfold mt_rg; rw [if_pos (by rw [e17, c])]
    unfold f_X12_ring_u10
    refine ⟨fun _ => ?_, fun d => absurd (y1 c) d⟩
    rw [← er]
    refine fin _ fr1 ?_ ?_ ?_ ?_ ?_ (fun j j0 j1 => ?_)
    iterate 5 (rw [ml_up_k (by omega), ml_up_k (by omega)])
    have g := bt1 c j j0 j1
    by_cases q2 : j = o
    · subst q2
      rw [ml_up_same]
      exact ⟨fun _ => rfl, fun d => absurd (g.2 (Or.inr rfl)) (by omega)⟩
    · rw [ml_up_i q2]
      by_cases q3 : j = r
      · subst q3
        rw [ml_up_same]
        exact ⟨fun _ => rfl, fun d => absurd (g.2 (Or.inl rfl)) (by omega)⟩
      · rw [ml_up_i q3]
        exact ⟨fun d => absurd (g.1 d) (fun z => z.elim q3 q2), fun _ => rfl⟩
  · have er : mt_rg h a b r = mt_r1 h a b (mt_r1 h a b 0 0 r).1 (mt_r1 h a b 0 0 r).2.1 t := by unfold mt_rg; rw [e17, if_neg nc]
    rw [y2 nc]
    refine one 1 t o2 r _ _ fr1 (by rw [ml_up_k (by omega), ml_up_k (by omega)]) (by rw [ml_up_k (by omega), ml_up_k (by omega)]) t0 t1 f1 f2 p0 p1 h0 h1 (fun y' y1' _ => ?_)
    unfold f_X12_ring_u10
    refine ⟨fun _ => ?_, fun d => absurd (y1' rfl) d⟩
    have es : (mt_r1 h a b 0 (mt_r1 h a b 0 0 r).2.1 t).2.1 = (mt_rg h a b r).2.1 := by rw [er]; rfl
    rw [es]
    refine fin _ (mt_mf_t fr1 (mt_mf_t mt_mf_seen mt_mf_seen)) ?_ ?_ ?_ ?_ ?_ (fun j j0 j1 => ?_)
    iterate 5 (rw [ml_up_k (by omega), ml_up_k (by omega), ml_up_k (by omega), ml_up_k (by omega)])
    have g := bt2 nc o2 f1 f2 p0 p1 j j0 j1
    by_cases q1 : j = o2
    · subst q1
      rw [ml_up_same]
      exact ⟨fun _ => rfl, fun d => absurd (g.2 (Or.inr (Or.inr (Or.inr rfl)))) (by omega)⟩
    rw [ml_up_i q1]
    by_cases q2 : j = t
    · subst q2
      rw [ml_up_same]
      exact ⟨fun _ => rfl, fun d => absurd (g.2 (Or.inr (Or.inr (Or.inl rfl)))) (by omega)⟩
    rw [ml_up_i q2]
    by_cases q3 : j = o
    · subst q3
      rw [ml_up_same]
      exact ⟨fun _ => rfl, fun d => absurd (g.2 (Or.inr (Or.inl rfl))) (by omega)⟩
    rw [ml_up_i q3]
    by_cases q4 : j = r
    · subst q4
      rw [ml_up_same]
      exact ⟨fun _ => rfl, fun d => absurd (g.2 (Or.inl rfl)) (by omega)⟩
    rw [ml_up_i q4]
    refine ⟨fun d => absurd (g.1 d) (fun z => ?_), fun _ => rfl⟩
    rcases z with z | z | z | z
    · exact q4 z
    · exact q3 z
    · exact q2 z
    · exact q1 z
theorem mt_both_ln {h : Int} {a b : Int → Int} (h5 : h ≤ 5) {e : Int} (e0 : 0 ≤ e) (e1 : e < 2 * h) : mt_both h a b (10 + e) = mt_sum h a b (mt_ln a) (mt_ln b) 10 (mt_s h e) 0 := by
  unfold mt_both
  rw [if_neg (by omega), if_pos (by omega), show 10 + e - 10 = e by omega]
def mt_seen (h : Int) (a b : Int → Int) (σ : ml_St) (n : Int) : Prop := ∀ r, 0 ≤ r → r < h → (σ 232 r = 0 ∨ σ 232 r = 1) ∧ (σ 232 r = 1 ↔ ∃ e, 0 ≤ e ∧ e < 2 * h ∧ (e < n ∨ (h ≤ e ∧ e < h + n)) ∧ mt_hit h a b 10 (mt_s h e) r)
def mt_mrow (h : Int) (a b : Int → Int) (x3 : Int) (σ : ml_St) (n : Int) : Prop := ∀ e, 0 ≤ e → e < 2 * h → (e < n ∨ (h ≤ e ∧ e < h + n)) → σ 227 (10 * x3 + e) = mt_both h a b e ∧ σ 228 (10 * x3 + e) = mt_both h a b (10 + e)
/-- one lead, taken down -/
theorem s_lead2 {K : ml_St → Prop} {x1 x2 x3 h e i : Int} {σ : ml_St} {a b : Int → Int} (h2 : 2 ≤ h) (h5 : h ≤ 5) (r1 : 0 ≤ x1 ∧ x1 < 64) (r2 : 0 ≤ x2 ∧ x2 < 64) (r3 : 0 ≤ x3 ∧ x3 < 64) (th : σ 215 2 = h) (ha : mt_M h a) (hb : mt_M h b) (wa : mt_mv h σ x1 a) (wb : mt_mv h σ x2 b) (e0 : 0 ≤ e) (e1 : e < 2 * h) (hi : (i = 1 ∧ e < h) ∨ (i = 0 ∧ h ≤ e)) {Q : Int → ml_St → Prop}
    (hQ : ∀ τ, τ 215 27 = mt_both h a b (10 + e) → mt_mf x3 σ τ → τ 227 = σ 227 → τ 228 = σ 228 → τ 229 = σ 229 → τ 230 = σ 230 → τ 231 = σ 231 → (∀ r, (mt_hit h a b 10 (mt_s h e) r → τ 232 r = 1) ∧ (¬ mt_hit h a b 10 (mt_s h e) r → τ 232 r = σ 232 r)) → Q (mt_both h a b e) τ) : f_X12_leads σ x1 x2 i e Q := by
  have hx : mt_x h e i = mt_s h e := by
    unfold mt_x mt_s
    rcases hi with ⟨c, d⟩ | ⟨c, d⟩
    · rw [if_neg (by omega), if_pos d]
    · rw [if_pos c, if_neg (by omega)]
  refine s_leads (a := a) (b := b) (ra := mt_ln a) (rb := mt_ln b) h2 h5 r1.1 r1.2 r2.1 r2.2 ha hb e0 e1 (by omega) hx th (fun e e0 e1 => ?_) ?_
  · exact ⟨(wa.1 e e0 e1).1, (wb.1 e e0 e1).1, (wa.1 e e0 e1).2, (wb.1 e e0 e1).2⟩
  obtain ⟨l1, l2, l3⟩ := mt_lead_k (h := h) (a := a) (b := b) (ra := mt_ln a) (rb := mt_ln b) 10 (mt_s h e) (ml_up σ 215 27 0)
  rw [← mt_eq_both h5 e e0 e1]
  refine hQ _ ?_ (mt_mf_t mt_mf_went mt_mf_lead) ?_ ?_ ?_ ?_ ?_ (fun r => ?_)
  · rw [l3, ml_up_same, mt_both_ln h5 e0 e1]
  · rw [l1 _ (by omega) (by omega), ml_up_k (by omega)]
  · rw [l1 _ (by omega) (by omega), ml_up_k (by omega)]
  · rw [l1 _ (by omega) (by omega), ml_up_k (by omega)]
  · rw [l1 _ (by omega) (by omega), ml_up_k (by omega)]
  · rw [l1 _ (by omega) (by omega), ml_up_k (by omega)]
  · obtain ⟨s1, s2⟩ := mt_lead_s (h := h) (a := a) (b := b) (ra := mt_ln a) (rb := mt_ln b) (r := r) 10 (mt_s h e) (ml_up σ 215 27 0)
    rw [ml_up_k (show (232:Int) ≠ 215 by omega)] at s2
    exact ⟨s1, s2⟩
theorem s_lays_L {Q : ml_St → Prop} {K : ml_St → Int → Int → Int → Prop} {x1 x2 x3 h : Int} {τ : ml_St} {a b : Int → Int} (h2 : 2 ≤ h) (h5 : h ≤ 5) (r1 : 0 ≤ x1 ∧ x1 < 64) (r2 : 0 ≤ x2 ∧ x2 < 64) (r3 : 0 ≤ x3 ∧ x3 < 64) (th : τ 215 2 = h) (ha : mt_M h a) (hb : mt_M h b) (wa : mt_mv h τ x1 a) (wb : mt_mv h τ x2 b) (d1 : x1 ≠ x3) (d2 : x2 ≠ x3)
    (k : ∀ σ, mt_mf x3 τ σ → mt_mrow h a b x3 σ h → mt_seen h a b σ h → K σ x1 x2 x3) :
    ∀ (N : Nat) (n : Int) (σ : ml_St), 0 ≤ n → n ≤ h → h - n < N → mt_mf x3 τ σ → mt_mrow h a b x3 σ n → mt_seen h a b σ n → f_X12_lays_u29 Q K N σ x1 x2 x3 n := by
  have hI : ∀ x : Int, -1 ≤ x → x < 1000 → I32 x := fun x _ _ => ⟨by omega, by omega⟩
  intro N
  induction N with
  | zero => intro n σ hn hN; omega
  | succ N ih =>
    intro n σ n0 hn hN f hr hs
    have th1 : σ 215 2 = h := by rw [f.2.1 2 (by omega), th]
    unfold f_X12_lays_u29
    rw [th1]
    refine fun _ => ⟨fun c => ?_, fun c => ?_⟩
    · have : n = h := by omega
      subst this
      exact k σ f hr hs
    · refine s_lead2 (x3 := x3) (K := fun _ => True) h2 h5 r1 r2 r3 th1 ha hb (mt_mv_f h5 f d1 wa) (mt_mv_f h5 f d2 wb) n0 (by omega) (Or.inl ⟨rfl, by omega⟩) (fun σ3 g27 gf g227 g228 g229 g230 g231 gs => ?_)
      have th3 : σ3 215 2 = h := by rw [gf.2.1 2 (by omega), th1]
      refine fun _ => ⟨hI _ (by omega) (by omega), hI _ (by omega) (by omega), by omega, by omega, fun σ6 s6 => ⟨hI _ (by omega) (by omega), hI _ (by omega) (by omega), ?_⟩⟩
      have w6 : σ6 215 = σ3 215 := by rw [s6, ml_up_k (by omega)]
      rw [w6]
      refine fun _ => ⟨by omega, by omega, fun σ10 s10 => ?_⟩
      have w10 : σ10 215 = σ3 215 := by rw [s10, ml_up_k (by omega), w6]
      rw [w10, th3]
      refine fun _ => ⟨hI _ (by omega) (by omega), ?_⟩
      have f10 : mt_mf x3 τ σ10 := by
        rw [s10, s6]
        exact mt_mf_t (mt_mf_t (mt_mf_t f gf) (mt_mf_row (by omega) (by omega) (by omega))) (mt_mf_row (by omega) (by omega) (by omega))
      have th10 : σ10 215 2 = h := by rw [w10, th3]
      refine s_lead2 (x3 := x3) (K := fun _ => True) h2 h5 r1 r2 r3 th10 ha hb (mt_mv_f h5 f10 d1 wa) (mt_mv_f h5 f10 d2 wb) (by omega) (by omega) (Or.inr ⟨rfl, by omega⟩) (fun σ13 k27 kf k227 k228 k229 k230 k231 ks => ?_)
      have th13 : σ13 215 2 = h := by rw [kf.2.1 2 (by omega), th10]
      rw [th13]
      refine fun _ => ⟨hI _ (by omega) (by omega), fun _ => ⟨hI _ (by omega) (by omega), hI _ (by omega) (by omega), by omega, by omega, fun σ18 s18 => ⟨hI _ (by omega) (by omega), ?_⟩⟩⟩
      have w18 : σ18 215 = σ13 215 := by rw [s18, ml_up_k (by omega)]
      rw [w18, th13]
      refine fun _ => ⟨hI _ (by omega) (by omega), hI _ (by omega) (by omega), fun _ => ⟨by omega, by omega, fun σ24 s24 => ⟨hI _ (by omega) (by omega), fun y25 e25 => ?_⟩⟩⟩
      subst e25
      have f24 : mt_mf x3 τ σ24 := by
        rw [s24, s18]
        exact mt_mf_t (mt_mf_t (mt_mf_t f10 kf) (mt_mf_row (by omega) (by omega) (by omega))) (mt_mf_row (by omega) (by omega) (by omega))
      refine ih (n + 1) σ24 (by omega) (by omega) (by omega) f24 ?_ ?_
      · intro e e0 e1 c
        have v227 : σ24 227 (10 * x3 + e) = if e = h + n then mt_both h a b (h + n) else if e = n then mt_both h a b n else σ 227 (10 * x3 + e) := by
          rw [s24, ml_up_k (by omega), s18]
          by_cases q : e = h + n
          · rw [if_pos q, q, show 10 * x3 + h + n = 10 * x3 + (h + n) by omega, ml_up_same]
          · rw [if_neg q, ml_up_i (by omega), k227, s10, ml_up_k (by omega), s6]
            by_cases q2 : e = n
            · rw [if_pos q2, q2, ml_up_same]
            · rw [if_neg q2, ml_up_i (by omega), g227]
        have v228 : σ24 228 (10 * x3 + e) = if e = h + n then mt_both h a b (10 + (h + n)) else if e = n then mt_both h a b (10 + n) else σ 228 (10 * x3 + e) := by
          rw [s24]
          by_cases q : e = h + n
          · rw [if_pos q, q, show 10 * x3 + h + n = 10 * x3 + (h + n) by omega, ml_up_same, k27]
          · rw [if_neg q, ml_up_i (by omega), s18, ml_up_k (by omega), k228, s10]
            by_cases q2 : e = n
            · rw [if_pos q2, q2, ml_up_same, g27]
            · rw [if_neg q2, ml_up_i (by omega), s6, ml_up_k (by omega), g228]
        rw [v227, v228]
        by_cases q : e = h + n
        · rw [if_pos q, if_pos q, q]; exact ⟨rfl, rfl⟩
        · rw [if_neg q, if_neg q]
          by_cases q2 : e = n
          · rw [if_pos q2, if_pos q2, q2]; exact ⟨rfl, rfl⟩
          · rw [if_neg q2, if_neg q2]
            exact hr e e0 e1 (by omega)
      · intro r r0 r1
        obtain ⟨z1, z2⟩ := hs r r0 r1
        obtain ⟨g1, g2⟩ := gs r
        obtain ⟨k1, k2⟩ := ks r
        have v : σ24 232 r = σ13 232 r := by rw [s24, ml_up_k (by omega), s18, ml_up_k (by omega)]
        have v10 : σ10 232 r = σ3 232 r := by rw [s10, ml_up_k (by omega), s6, ml_up_k (by omega)]
        rw [v]
        rw [v10] at k2
        by_cases c2 : mt_hit h a b 10 (mt_s h (h + n)) r
        · rw [k1 c2]
          exact ⟨Or.inr rfl, fun _ => ⟨h + n, by omega, by omega, by omega, c2⟩, fun _ => rfl⟩
        · rw [k2 c2]
          by_cases c1 : mt_hit h a b 10 (mt_s h n) r
          · rw [g1 c1]
            exact ⟨Or.inr rfl, fun _ => ⟨n, by omega, by omega, by omega, c1⟩, fun _ => rfl⟩
          · rw [g2 c1]
            refine ⟨z1, fun d => ?_, fun ⟨e, e0, e1, e2, e3⟩ => ?_⟩
            · obtain ⟨e, e0, e1, e2, e3⟩ := z2.1 d
              exact ⟨e, e0, e1, by omega, e3⟩
            · have ne1 : e ≠ n := fun q => c1 (q ▸ e3)
              have ne2 : e ≠ h + n := fun q => c2 (q ▸ e3)
              exact z2.2 ⟨e, e0, e1, by omega, e3⟩
def mt_mhd (h : Int) (a b : Int → Int) (x3 : Int) (σ : ml_St) (n : Nat) : Prop := σ 229 x3 = (mt_rs h a b n).2.1 ∧ σ 230 x3 = (mt_rs h a b n).2.2.1 ∧ σ 231 x3 = (mt_rs h a b n).2.2.2
def mt_msn (h : Int) (σ : ml_St) (m : Int) : Prop := ∀ r, 0 ≤ r → r < h → σ 232 r = mb_t m r
theorem s_lays_R {Q : ml_St → Prop} {K : ml_St → Prop} {x1 x2 x3 h : Int} {τ : ml_St} {a b : Int → Int} (h2 : 2 ≤ h) (h5 : h ≤ 5) (r1 : 0 ≤ x1 ∧ x1 < 64) (r2 : 0 ≤ x2 ∧ x2 < 64) (r3 : 0 ≤ x3 ∧ x3 < 64) (th : τ 215 2 = h) (ha : mt_M h a) (hb : mt_M h b) (wa : mt_mv h τ x1 a) (wb : mt_mv h τ x2 b) (d1 : x1 ≠ x3) (d2 : x2 ≠ x3)
    (k : ∀ σ, mt_mf x3 τ σ → mt_mrow h a b x3 σ h → mt_mhd h a b x3 σ h.toNat → K σ) :
    ∀ (N : Nat) (n : Nat) (σ : ml_St), (n : Int) ≤ h → h - n < N → mt_mf x3 τ σ → mt_mrow h a b x3 σ h → mt_mhd h a b x3 σ n → mt_msn h σ (mt_rs h a b n).1 → f_X12_lays_u219 Q K N σ x1 x2 x3 n := by
  intro N
  induction N with
  | zero => intro n σ hn hN; omega
  | succ N ih =>
    intro n σ hn hN f hr hd hs
    have th1 : σ 215 2 = h := by rw [f.2.1 2 (by omega), th]
    have hC := mt_rs_C (by omega) h5 ha hb n hn
    unfold f_X12_lays_u219
    rw [th1]
    refine fun _ => ⟨fun c => ?_, fun c => ⟨by omega, by omega, ?_⟩⟩
    · have : n = h.toNat := by omega
      subst this
      exact k σ f hr hd
    rw [hs n (by omega) (by omega)]
    refine fun _ => ⟨fun d => ?_, fun d => ?_⟩
    · have e : mt_rs h a b (n + 1) = mt_rs h a b n := by
        conv => lhs; unfold mt_rs
        exact if_neg d
      unfold f_X12_lays_u247
      refine ⟨⟨by omega, by omega⟩, fun y1 e1 => ?_⟩
      subst e1
      exact ih (n + 1) σ (by omega) (by omega) f hr (by unfold mt_mhd; rw [e]; exact hd) (by rw [e]; exact hs)
    · have e : mt_rs h a b (n + 1) = (b_or (mt_rs h a b n).1 (mt_rg h a b n).1, w64 ((mt_rs h a b n).2.1 + 1), max (mt_rs h a b n).2.2.1 (mt_rg h a b n).2.1, w64 ((mt_rs h a b n).2.2.2 + (mt_rg h a b n).2.1)) := by
        conv => lhs; unfold mt_rs
        exact if_pos d
      refine s_ring h2 h5 r1 r2 r3 th1 ha hb (mt_mv_f h5 f d1 wa) (mt_mv_f h5 f d2 wb) d1 d2 hC (by omega) (by omega) d (fun σ' f' g227 g228 g229 g230 g231 gs => ?_)
      unfold f_X12_lays_u247
      refine ⟨⟨by omega, by omega⟩, fun y1 e1 => ?_⟩
      subst e1
      obtain ⟨hd1, hd2, hd3⟩ := hd
      refine ih (n + 1) σ' (by omega) (by omega) (mt_mf_t f f') ?_ ?_ ?_
      · intro e e0 e1 c; rw [g227, g228]; exact hr e e0 e1 c
      · unfold mt_mhd
        rw [e, g229, g230, g231, hd1, hd2, hd3]
        exact ⟨rfl, rfl, rfl⟩
      · intro r r0 r1
        rw [e]
        show σ' 232 r = mb_t (b_or (mt_rs h a b n).1 (mt_rg h a b n).1) r
        obtain ⟨g1, g2⟩ := gs r r0 r1
        have key := (mt_rg_e h5 ha hb hC (by omega) (by omega) d).2.2 r r0 r1
        rcases mb_t_01 (mt_rg h a b n).1 r with z | z
        · rw [g2 z, hs r r0 r1]
          rcases mb_t_01 (mt_rs h a b n).1 r with y | y
          · rcases mb_t_01 (b_or (mt_rs h a b n).1 (mt_rg h a b n).1) r with w | w
            · rw [y, w]
            · rcases key.1 w with v | v <;> omega
          · rw [y, key.2 (Or.inl y)]
        · rw [g1 z, key.2 (Or.inr z)]
theorem s_lays {Q : ml_St → Prop} {x1 x2 x3 h : Int} {τ : ml_St} {a b : Int → Int} (h2 : 2 ≤ h) (h5 : h ≤ 5) (r1 : 0 ≤ x1 ∧ x1 < 64) (r2 : 0 ≤ x2 ∧ x2 < 64) (r3 : 0 ≤ x3 ∧ x3 < 64) (th : τ 215 2 = h) (ha : mt_M h a) (hb : mt_M h b) (wa : mt_mv h τ x1 a) (wb : mt_mv h τ x2 b) (d1 : x1 ≠ x3) (d2 : x2 ≠ x3)
    (k : ∀ σ, mt_mf x3 τ σ → mt_mv h σ x3 (mt_both h a b) → Q σ) : f_X12_lays τ x1 x2 x3 Q := by
  have e20 : mt_both h a b 20 = (mt_rs h a b h.toNat).2.1 := by unfold mt_both; rw [if_neg (by omega), if_neg (by omega), if_pos rfl]
  have e21 : mt_both h a b 21 = (mt_rs h a b h.toNat).2.2.1 := by unfold mt_both; rw [if_neg (by omega), if_neg (by omega), if_neg (by omega), if_pos rfl]
  have e22 : mt_both h a b 22 = (mt_rs h a b h.toNat).2.2.2 := by unfold mt_both; rw [if_neg (by omega), if_neg (by omega), if_neg (by omega), if_neg (by omega), if_pos rfl]
  unfold f_X12_lays f_X12_lays_u0
  -- seen is cleared
  have clr : ∀ (N : Nat) (n : Int) (σ : ml_St), 0 ≤ n → n ≤ h → h - n < N → mt_mf x3 τ σ → (∀ r, 0 ≤ r → r < n → σ 232 r = 0) → (∀ σ, mt_mf x3 τ σ → (∀ r, 0 ≤ r → r < h → σ 232 r = 0) → f_X12_lays_u26 Q σ x1 x2 x3) → f_X12_lays_u3 Q (f_X12_lays_u26 Q) N σ x1 x2 x3 n := by
    intro N
    induction N with
    | zero => intro n σ n0 hn hN; omega
    | succ N ih =>
      intro n σ n0 hn hN f hz kk
      have th1 : σ 215 2 = h := by rw [f.2.1 2 (by omega), th]
      unfold f_X12_lays_u3
      rw [th1]
      refine fun _ => ⟨fun c => ?_, fun c => ⟨n0, by omega, fun σ3 s3 => ⟨⟨by omega, by omega⟩, fun y4 e4 => ?_⟩⟩⟩
      · have : n = h := by omega
        subst this
        exact kk σ f hz
      · subst e4
        refine ih (n + 1) σ3 (by omega) (by omega) (by omega) (by rw [s3]; exact mt_mf_t f mt_mf_seen) (fun r r0 r1 => ?_) kk
        rw [s3]
        by_cases q : r = n
        · rw [q, ml_up_same]
        · rw [ml_up_i q]; exact hz r r0 (by omega)
  refine ⟨h.toNat + 1, clr _ 0 τ (by omega) (by omega) (by omega) mt_mf_r (fun r r0 r1 => absurd r1 (by omega)) (fun σ f hz => ?_)⟩
  unfold f_X12_lays_u26
  refine ⟨h.toNat + 1, s_lays_L h2 h5 r1 r2 r3 th ha hb wa wb d1 d2 (fun σ2 f2 hr2 hs2 => ?_) _ 0 σ (by omega) (by omega) (by omega) f (fun e e0 e1 c => absurd c (by omega)) (fun r r0 r1 => ?_)⟩
  · -- the heads, then the rings
    have wa2 := mt_mv_f h5 f2 d1 wa
    have wb2 := mt_mv_f h5 f2 d2 wb
    obtain ⟨-, a20, a21, a22⟩ := wa2
    obtain ⟨-, b20, b21, b22⟩ := wb2
    unfold f_X12_lays_u141
    refine ⟨r1.1, r1.2, fun _ => ⟨r2.1, r2.2, fun _ => ⟨r3.1, r3.2, fun σ4 s4 => ⟨r1.1, r1.2, fun _ => ⟨r2.1, r2.2, fun _ => ⟨r3.1, r3.2, fun σ8 s8 => ⟨r1.1, r1.2, fun _ => ⟨r2.1, r2.2, fun _ => ?_⟩⟩⟩⟩⟩⟩⟩⟩
    have v4 : ∀ x, σ4 231 x = σ2 231 x := fun x => by rw [s4, ml_up_k (by omega)]
    have v8 : ∀ x, σ8 230 x = σ2 230 x := fun x => by rw [s8, ml_up_k (by omega), s4, ml_up_k (by omega)]
    have fin : ∀ s2, s2 = max (a 21) (b 21) → f_X12_lays_u215 Q σ8 x1 x2 x3 x3 s2 := by
      intro s2 es
      unfold f_X12_lays_u215
      refine ⟨r3.1, r3.2, fun σ1 s1 => ⟨h.toNat + 1, ?_⟩⟩
      have u : ∀ k, k ≠ 229 → k ≠ 230 → k ≠ 231 → σ1 k = σ2 k := fun k g1 g2 g3 => by rw [s1, ml_up_k g2, s8, ml_up_k g3, s4, ml_up_k g1]
      refine s_lays_R h2 h5 r1 r2 r3 th ha hb wa wb d1 d2 (fun σ3 f3 hr3 hd3 => ?_) _ 0 σ1 (by omega) (by omega) ?_ ?_ ?_ ?_
      · unfold f_X12_lays_u253
        refine k σ3 f3 ⟨fun e e0 e1 => hr3 e e0 e1 (by omega), ?_⟩
        rw [e20, e21, e22]
        exact hd3
      · rw [s1, s8, s4]
        exact mt_mf_t (mt_mf_t (mt_mf_t f2 (mt_mf_fld (by omega))) (mt_mf_fld (by omega))) (mt_mf_fld (by omega))
      · intro e e0 e1 c
        rw [u 227 (by omega) (by omega) (by omega), u 228 (by omega) (by omega) (by omega)]
        exact hr2 e e0 e1 c
      · unfold mt_mhd
        rw [s1, ml_up_k (show (229:Int) ≠ 230 by omega), ml_up_same, ml_up_k (show (231:Int) ≠ 230 by omega), s8, ml_up_k (show (229:Int) ≠ 231 by omega), ml_up_same, s4, ml_up_same, ml_up_k (show (231:Int) ≠ 229 by omega), a20, b20, a22, b22, es]
        exact ⟨rfl, rfl, rfl⟩
      · intro r r0 r1
        rw [u 232 (by omega) (by omega) (by omega)]
        obtain ⟨z1, z2⟩ := hs2 r r0 r1
        show σ2 232 r = mb_t (mt_mm h a b (2 * h).toNat) r
        obtain ⟨m1, m2⟩ := mt_mm_bit (a := a) (b := b) h5 (2 * h).toNat
        have g := m2 r r0 r1
        have e : σ2 232 r = 1 ↔ mb_t (mt_mm h a b (2 * h).toNat) r = 1 := by
          rw [z2, g]
          constructor
          · rintro ⟨e, e0, e1, e2, e3⟩
            exact ⟨e.toNat, by omega, by rw [show ((e.toNat : Nat) : Int) = e by omega]; exact e3⟩
          · rintro ⟨e, e1, e3⟩
            exact ⟨e, by omega, by omega, by omega, e3⟩
        rcases mb_t_01 (mt_mm h a b (2 * h).toNat) r with y | y
        · rcases z1 with w | w
          · rw [y, w]
          · have := e.1 w; omega
        · rw [y, e.2 y]
    rw [v8, v8, a21, b21]
    exact ⟨fun c => ⟨r2.1, r2.2, fun _ => fin _ (by omega)⟩, fun c => ⟨r1.1, r1.2, fun _ => fin _ (by omega)⟩⟩
  · rw [hz r r0 r1]
    exact ⟨Or.inl rfl, fun c => absurd c (by omega), fun ⟨e, e0, e1, e2, e3⟩ => absurd e2 (by omega)⟩
/-! straight, a sign, a copy: both sides -/
def mt_str (h : Int) (k : Int) : Int := if k < 10 then (if k < h then k + h else k - h) else 0
def mt_sgn (h i u : Int) (k : Int) : Int :=
  if k < 10 then (if u = 0 then (if k = i then h + i + 1 else if k = h + i + 1 then i else if k = i + 1 then h + i else if k = h + i then i + 1 else mt_str h k) else (if k = i then i + 1 else if k = i + 1 then i else if k = h + i then h + i + 1 else if k = h + i + 1 then h + i else mt_str h k))
  else if k < 20 then (if k = 10 + i ∨ k = 10 + (i + 1) ∨ k = 10 + (h + i) ∨ k = 10 + (h + i + 1) then 1 else 0)
  else if k = 23 then 1 else if k = 24 then (if u = 0 then 1 else 0) else if k = 25 then (if u = 0 then 0 else 1) else 0
theorem mt_str_e {h e : Int} (h5 : h ≤ 5) (e0 : 0 ≤ e) (e1 : e < 2 * h) : mt_str h e = (if e < h then e + h else e - h) ∧ mt_str h (10 + e) = 0 := by
  unfold mt_str
  rw [if_pos (show e < 10 by omega), if_neg (show ¬ 10 + e < 10 by omega)]
  exact ⟨rfl, rfl⟩
theorem mt_str_M {h : Int} (h5 : h ≤ 5) : mt_M h (mt_str h) := by
  intro e e0 e1
  obtain ⟨g, -⟩ := mt_str_e h5 e0 e1
  rw [g]
  by_cases q : e < h
  · rw [if_pos q, (mt_str_e h5 (by omega) (by omega)).1, if_neg (by omega)]; exact ⟨by omega, by omega, by omega, by omega⟩
  · rw [if_neg q, (mt_str_e h5 (by omega) (by omega)).1, if_pos (by omega)]; exact ⟨by omega, by omega, by omega, by omega⟩
theorem mt_sgn_M {h i u : Int} (h5 : h ≤ 5) (i0 : 0 ≤ i) (i1 : i + 2 ≤ h) : mt_M h (mt_sgn h i u) := by
  have s : ∀ e, 0 ≤ e → e < 2 * h → mt_str h e = (if e < h then e + h else e - h) := fun e e0 e1 => (mt_str_e h5 e0 e1).1
  intro e e0 e1
  have key : ∀ x, 0 ≤ x → x < 2 * h → mt_sgn h i u x = (if u = 0 then (if x = i then h + i + 1 else if x = h + i + 1 then i else if x = i + 1 then h + i else if x = h + i then i + 1 else if x < h then x + h else x - h) else (if x = i then i + 1 else if x = i + 1 then i else if x = h + i then h + i + 1 else if x = h + i + 1 then h + i else if x < h then x + h else x - h)) := by
    intro x x0 x1
    unfold mt_sgn
    rw [if_pos (by omega), s x x0 x1]
  by_cases hu : u = 0
  · have key2 : ∀ x, 0 ≤ x → x < 2 * h → mt_sgn h i u x = (if x = i then h + i + 1 else if x = h + i + 1 then i else if x = i + 1 then h + i else if x = h + i then i + 1 else if x < h then x + h else x - h) := fun x x0 x1 => by rw [key x x0 x1, if_pos hu]
    rcases (by omega : e = i ∨ e = h + i + 1 ∨ e = i + 1 ∨ e = h + i ∨ (e < h ∧ e ≠ i ∧ e ≠ i + 1) ∨ (h ≤ e ∧ e ≠ h + i ∧ e ≠ h + i + 1)) with q | q | q | q | q | q
    · have a1 : mt_sgn h i u e = h + i + 1 := by rw [key2 e e0 e1]; (repeat' split) <;> omega
      have a2 : mt_sgn h i u (h + i + 1) = e := by rw [key2 (h + i + 1) (by omega) (by omega)]; (repeat' split) <;> omega
      exact ⟨by omega, by omega, by rw [a1]; exact a2, by omega⟩
    · have a1 : mt_sgn h i u e = i := by rw [key2 e e0 e1]; (repeat' split) <;> omega
      have a2 : mt_sgn h i u (i) = e := by rw [key2 (i) (by omega) (by omega)]; (repeat' split) <;> omega
      exact ⟨by omega, by omega, by rw [a1]; exact a2, by omega⟩
    · have a1 : mt_sgn h i u e = h + i := by rw [key2 e e0 e1]; (repeat' split) <;> omega
      have a2 : mt_sgn h i u (h + i) = e := by rw [key2 (h + i) (by omega) (by omega)]; (repeat' split) <;> omega
      exact ⟨by omega, by omega, by rw [a1]; exact a2, by omega⟩
    · have a1 : mt_sgn h i u e = i + 1 := by rw [key2 e e0 e1]; (repeat' split) <;> omega
      have a2 : mt_sgn h i u (i + 1) = e := by rw [key2 (i + 1) (by omega) (by omega)]; (repeat' split) <;> omega
      exact ⟨by omega, by omega, by rw [a1]; exact a2, by omega⟩
    · have a1 : mt_sgn h i u e = e + h := by rw [key2 e e0 e1]; (repeat' split) <;> omega
      have a2 : mt_sgn h i u (e + h) = e := by rw [key2 (e + h) (by omega) (by omega)]; (repeat' split) <;> omega
      exact ⟨by omega, by omega, by rw [a1]; exact a2, by omega⟩
    · have a1 : mt_sgn h i u e = e - h := by rw [key2 e e0 e1]; (repeat' split) <;> omega
      have a2 : mt_sgn h i u (e - h) = e := by rw [key2 (e - h) (by omega) (by omega)]; (repeat' split) <;> omega
      exact ⟨by omega, by omega, by rw [a1]; exact a2, by omega⟩
  · have key2 : ∀ x, 0 ≤ x → x < 2 * h → mt_sgn h i u x = (if x = i then i + 1 else if x = i + 1 then i else if x = h + i then h + i + 1 else if x = h + i + 1 then h + i else if x < h then x + h else x - h) := fun x x0 x1 => by rw [key x x0 x1, if_neg hu]
    rcases (by omega : e = i ∨ e = h + i + 1 ∨ e = i + 1 ∨ e = h + i ∨ (e < h ∧ e ≠ i ∧ e ≠ i + 1) ∨ (h ≤ e ∧ e ≠ h + i ∧ e ≠ h + i + 1)) with q | q | q | q | q | q
    · have a1 : mt_sgn h i u e = i + 1 := by rw [key2 e e0 e1]; (repeat' split) <;> omega
      have a2 : mt_sgn h i u (i + 1) = e := by rw [key2 (i + 1) (by omega) (by omega)]; (repeat' split) <;> omega
      exact ⟨by omega, by omega, by rw [a1]; exact a2, by omega⟩
    · have a1 : mt_sgn h i u e = h + i := by rw [key2 e e0 e1]; (repeat' split) <;> omega
      have a2 : mt_sgn h i u (h + i) = e := by rw [key2 (h + i) (by omega) (by omega)]; (repeat' split) <;> omega
      exact ⟨by omega, by omega, by rw [a1]; exact a2, by omega⟩
    · have a1 : mt_sgn h i u e = i := by rw [key2 e e0 e1]; (repeat' split) <;> omega
      have a2 : mt_sgn h i u (i) = e := by rw [key2 (i) (by omega) (by omega)]; (repeat' split) <;> omega
      exact ⟨by omega, by omega, by rw [a1]; exact a2, by omega⟩
    · have a1 : mt_sgn h i u e = h + i + 1 := by rw [key2 e e0 e1]; (repeat' split) <;> omega
      have a2 : mt_sgn h i u (h + i + 1) = e := by rw [key2 (h + i + 1) (by omega) (by omega)]; (repeat' split) <;> omega
      exact ⟨by omega, by omega, by rw [a1]; exact a2, by omega⟩
    · have a1 : mt_sgn h i u e = e + h := by rw [key2 e e0 e1]; (repeat' split) <;> omega
      have a2 : mt_sgn h i u (e + h) = e := by rw [key2 (e + h) (by omega) (by omega)]; (repeat' split) <;> omega
      exact ⟨by omega, by omega, by rw [a1]; exact a2, by omega⟩
    · have a1 : mt_sgn h i u e = e - h := by rw [key2 e e0 e1]; (repeat' split) <;> omega
      have a2 : mt_sgn h i u (e - h) = e := by rw [key2 (e - h) (by omega) (by omega)]; (repeat' split) <;> omega
      exact ⟨by omega, by omega, by rw [a1]; exact a2, by omega⟩
theorem mt_up2 {σ : ml_St} {k i v a b : Int} : ml_up σ k i v a b = if a = k ∧ b = i then v else σ a b := rfl
theorem s_beStraight {Q : ml_St → Prop} {th h : Int} {σ : ml_St} (h2 : 2 ≤ h) (h5 : h ≤ 5) (k : ∀ σ', mt_fr th σ σ' → mt_wv h σ' th (mt_str h) → Q σ') : f_X9_beStraight σ th h Q := by
  have L : ∀ (N : Nat) (n : Int) (σ1 : ml_St), 0 ≤ n → n ≤ 2 * h → 2 * h - n < N → mt_fr th σ σ1 → (∀ e, 0 ≤ e → e < n → σ1 (th + 1) e = mt_str h e ∧ σ1 (th + 2) e = mt_str h (10 + e)) → f_X9_beStraight_u2 Q (f_X9_beStraight_u42 Q th) th N σ1 h n := by
    intro N
    induction N with
    | zero => intro n σ1 n0 n1 hN; omega
    | succ N ih =>
      intro n σ1 n0 n1 hN f hr
      unfold f_X9_beStraight_u2
      refine ⟨⟨by omega, by omega⟩, fun c => ?_, fun c => ?_⟩
      · unfold f_X9_beStraight_u42
        intro σ2 s2 σ3 s3 σ4 s4 σ5 s5 σ6 s6 σ7 s7
        refine k σ7 ?_ ?_
        · rw [s7, s6, s5, s4, s3, s2]
          exact mt_fr_t (mt_fr_t (mt_fr_t (mt_fr_t (mt_fr_t (mt_fr_t f mt_fr_up) mt_fr_up) mt_fr_up) mt_fr_up) mt_fr_up) mt_fr_up
        · have u : ∀ j, j ≠ th → σ7 j = σ1 j := fun j hj => by rw [s7, ml_up_k hj, s6, ml_up_k hj, s5, ml_up_k hj, s4, ml_up_k hj, s3, ml_up_k hj, s2, ml_up_k hj]
          refine ⟨fun e e0 e1 => ?_, ?_⟩
          · rw [u (th + 1) (by omega), u (th + 2) (by omega)]
            exact hr e e0 (by omega)
          · rw [s7, s6, s5, s4, s3, s2]
            simp [ml_up, mt_str]
      · have one : ∀ s2, s2 = mt_str h n → f_X9_beStraight_u28 Q (f_X9_beStraight_u2 Q (f_X9_beStraight_u42 Q th) th N) th σ1 h n n s2 := by
          intro s2 es
          unfold f_X9_beStraight_u28
          refine ⟨n0, by omega, fun σ2 g2 => ⟨n0, by omega, fun σ3 g3 => ⟨⟨by omega, by omega⟩, fun y3 e3 => ?_⟩⟩⟩
          subst e3
          refine ih (n + 1) σ3 (by omega) (by omega) (by omega) ?_ (fun e e0 e1 => ?_)
          · rw [g3, g2]; exact mt_fr_t (mt_fr_t f mt_fr_up1) mt_fr_up2
          · rw [g3, ml_up_k (show th + 1 ≠ th + 2 by omega), g2]
            by_cases q : e = n
            · subst q
              rw [ml_up_same, ml_up_same, es, (mt_str_e h5 n0 (by omega)).2]
              exact ⟨rfl, rfl⟩
            · rw [ml_up_i q, ml_up_i q, ml_up_k (show th + 2 ≠ th + 1 by omega)]
              exact hr e e0 (by omega)
        have g := (mt_str_e h5 n0 (show n < 2 * h by omega)).1
        refine ⟨fun d => ⟨⟨by omega, by omega⟩, one _ ?_⟩, fun d => ⟨⟨by omega, by omega⟩, one _ ?_⟩⟩
        · rw [g, if_neg (by omega)]
        · rw [g, if_pos (by omega)]
  unfold f_X9_beStraight f_X9_beStraight_u0
  exact ⟨(2 * h).toNat + 1, L _ 0 σ (by omega) (by omega) (by omega) mt_fr_r (fun e e0 e1 => absurd e1 (by omega))⟩
theorem s_touch {Q : ml_St → Prop} {th x y : Int} {σ : ml_St} (x0 : 0 ≤ x ∧ x < 10) (y0 : 0 ≤ y ∧ y < 10) (k : Q (ml_up (ml_up (ml_up (ml_up σ (th + 1) x y) (th + 1) y x) (th + 2) x 1) (th + 2) y 1)) : f_X9_touch σ th x y Q := by
  unfold f_X9_touch f_X9_touch_u0
  refine ⟨x0.1, x0.2, fun σ1 g1 => ⟨y0.1, y0.2, fun σ2 g2 => ⟨x0.1, x0.2, fun σ3 g3 => ⟨y0.1, y0.2, fun σ4 g4 => ?_⟩⟩⟩⟩
  subst g1; subst g2; subst g3; subst g4
  exact k
theorem s_beSign {Q : ml_St → Prop} {th h x : Int} {σ : ml_St} (h2 : 2 ≤ h) (h5 : h ≤ 5) (x0 : 0 ≤ x) (x1 : x / 2 + 2 ≤ h) (k : ∀ σ', mt_fr th σ σ' → mt_wv h σ' th (mt_sgn h (x / 2) (x % 2)) → Q σ') : f_X9_beSign σ th x h Q := by
  have i0 : 0 ≤ x / 2 := by omega
  have td : Int.tdiv x 2 = x / 2 := by rw [Int.tdiv_eq_ediv_of_nonneg x0]
  have tm : Int.tmod x 2 = x % 2 := by rw [Int.tmod_eq_emod_of_nonneg x0]
  unfold f_X9_beSign f_X9_beSign_u0
  refine s_beStraight h2 h5 (fun σ1 f1 w1 => ?_)
  rw [td, tm]
  obtain ⟨wr, w20, w21, w22, w23, w24, w25⟩ := w1
  generalize hi : x / 2 = i at *
  refine ⟨by omega, ⟨by omega, by omega⟩, fun y3 e3 σ4 s4 => ⟨by omega, ⟨by omega, by omega⟩, ?_⟩⟩
  subst e3
  have fin : ∀ (σ5 : ml_St), (∀ j, j ≠ th + 1 → j ≠ th + 2 → σ5 j = (ml_up (ml_up (ml_up σ1 th 5 1) th 7 (if x % 2 = 0 then 0 else 1)) th 6 (if x % 2 = 0 then 1 else 0)) j) → (∀ e, 0 ≤ e → e < 2 * h → σ5 (th + 1) e = mt_sgn h y3 (x % 2) e ∧ σ5 (th + 2) e = mt_sgn h y3 (x % 2) (10 + e)) → Q σ5 := by
    intro σ5 u hr
    refine k σ5 (fun j h1 h2 h3 => by rw [u j h2 h3, ml_up_k h1, ml_up_k h1, ml_up_k h1, f1 j h1 h2 h3]) ⟨hr, ?_⟩
    rw [u th (by omega) (by omega)]
    simp only [mt_up2]
    simp [w20, w21, w22, mt_sgn, mt_str]
  by_cases c : x % 2 = 0
  · rw [if_pos c, if_pos c] at fin
    refine ⟨fun _ => ?_, fun d => absurd c d⟩
    unfold f_X9_beSign_u26
    intro σ6 s6
    rw [show σ6 th 7 = 0 by rw [s6, ml_up_same]]
    refine fun _ => ⟨fun d => absurd rfl d, fun _ => ?_⟩
    unfold f_X9_beSign_u42
    intro σ7 s7
    rw [show σ7 th 7 = 0 by rw [s7, ml_up_i (by omega), s6, ml_up_same]]
    refine fun _ => ⟨fun _ => ⟨⟨by omega, by omega⟩, ⟨by omega, by omega⟩, ?_⟩, fun d => absurd rfl d⟩
    refine s_touch ⟨by omega, by omega⟩ ⟨by omega, by omega⟩ ⟨⟨by omega, by omega⟩, ⟨by omega, by omega⟩, ?_⟩
    refine s_touch ⟨by omega, by omega⟩ ⟨by omega, by omega⟩ ?_
    unfold f_X9_beSign_u95
    refine fin _ (fun j h1 h2 => ?_) (fun e e0 e1 => ?_)
    · rw [ml_up_k h2, ml_up_k h2, ml_up_k h1, ml_up_k h1, ml_up_k h2, ml_up_k h2, ml_up_k h1, ml_up_k h1, s7, s6, s4]
    · have r1 : σ7 (th + 1) e = mt_str h e := by rw [s7, ml_up_k (by omega), s6, ml_up_k (by omega), s4, ml_up_k (by omega)]; exact (wr e e0 e1).1
      have r2 : σ7 (th + 2) e = 0 := by rw [s7, ml_up_k (by omega), s6, ml_up_k (by omega), s4, ml_up_k (by omega)]; rw [(wr e e0 e1).2, (mt_str_e h5 e0 e1).2]
      simp only [mt_up2, r1, r2]
      unfold mt_sgn
      rw [if_pos (show e < 10 by omega), if_pos c, if_neg (show ¬ 10 + e < 10 by omega), if_pos (show 10 + e < 20 by omega)]
      have ne : th + 1 ≠ th + 2 := by omega
      have ne2 : th + 2 ≠ th + 1 := by omega
      simp only [ne, ne2, false_and, if_false, true_and]
      constructor
      · (repeat' split) <;> first | rfl | omega
      · by_cases q1 : e = y3 <;> by_cases q2 : e = y3 + 1 <;> by_cases q3 : e = h + y3 <;> by_cases q4 : e = h + y3 + 1 <;> simp [q1, q2, q3, q4] <;> omega
  · rw [if_neg c, if_neg c] at fin
    refine ⟨fun d => absurd d c, fun _ => ?_⟩
    unfold f_X9_beSign_u26
    intro σ6 s6
    rw [show σ6 th 7 = 1 by rw [s6, ml_up_same]]
    refine fun _ => ⟨fun _ => ?_, fun d => absurd d (by omega)⟩
    unfold f_X9_beSign_u42
    intro σ7 s7
    rw [show σ7 th 7 = 1 by rw [s7, ml_up_i (by omega), s6, ml_up_same]]
    refine fun _ => ⟨fun d => absurd d (by omega), fun _ => ⟨⟨by omega, by omega⟩, ?_⟩⟩
    refine s_touch ⟨by omega, by omega⟩ ⟨by omega, by omega⟩ ⟨⟨by omega, by omega⟩, ⟨by omega, by omega⟩, ⟨by omega, by omega⟩, ?_⟩
    refine s_touch ⟨by omega, by omega⟩ ⟨by omega, by omega⟩ ?_
    unfold f_X9_beSign_u95
    refine fin _ (fun j h1 h2 => ?_) (fun e e0 e1 => ?_)
    · rw [ml_up_k h2, ml_up_k h2, ml_up_k h1, ml_up_k h1, ml_up_k h2, ml_up_k h2, ml_up_k h1, ml_up_k h1, s7, s6, s4]
    · have r1 : σ7 (th + 1) e = mt_str h e := by rw [s7, ml_up_k (by omega), s6, ml_up_k (by omega), s4, ml_up_k (by omega)]; exact (wr e e0 e1).1
      have r2 : σ7 (th + 2) e = 0 := by rw [s7, ml_up_k (by omega), s6, ml_up_k (by omega), s4, ml_up_k (by omega)]; rw [(wr e e0 e1).2, (mt_str_e h5 e0 e1).2]
      simp only [mt_up2, r1, r2]
      unfold mt_sgn
      rw [if_pos (show e < 10 by omega), if_neg c, if_neg (show ¬ 10 + e < 10 by omega), if_pos (show 10 + e < 20 by omega)]
      have ne : th + 1 ≠ th + 2 := by omega
      have ne2 : th + 2 ≠ th + 1 := by omega
      simp only [ne, ne2, false_and, if_false, true_and]
      constructor
      · (repeat' split) <;> first | rfl | omega
      · by_cases q1 : e = y3 <;> by_cases q2 : e = y3 + 1 <;> by_cases q3 : e = h + y3 <;> by_cases q4 : e = h + y3 + 1 <;> simp [q1, q2, q3, q4] <;> omega
theorem mt_cpy2 {σ : ml_St} {a sp b dp n x y : Int} : ml_cpy σ a sp b dp n x y = if x = b ∧ dp ≤ y ∧ y < dp + n then σ a (sp + (y - dp)) else σ x y := rfl
theorem mt_cpy_k {σ : ml_St} {a sp b dp n x : Int} (q : x ≠ b) : ml_cpy σ a sp b dp n x = σ x := by
  funext y; rw [mt_cpy2, if_neg (fun c => q c.1)]
theorem s_beLike {Q : ml_St → Prop} {th p h : Int} {σ : ml_St} {v : Int → Int} (h5 : h ≤ 5) (d : th + 3 ≤ p ∨ p + 3 ≤ th) (w : mt_wv h σ p v) (k : ∀ σ', mt_fr th σ σ' → mt_wv h σ' th v → Q σ') : f_X9_beLike σ th p Q := by
  obtain ⟨wr, w20, w21, w22, w23, w24, w25⟩ := w
  have np : p ≠ th := by omega
  unfold f_X9_beLike f_X9_beLike_u0
  refine ⟨by omega, by omega, by omega, by omega, by omega, fun σ1 s1 => ⟨by omega, by omega, by omega, by omega, by omega, fun σ2 s2 => ?_⟩⟩
  intro _ σ4 s4 _ σ6 s6 _ σ8 s8 _ σ10 s10 _ σ12 s12 _ σ14 s14
  have p2 : σ2 p = σ p := by rw [s2, mt_cpy_k (by omega), s1, mt_cpy_k (by omega)]
  have p4 : σ4 p = σ p := by rw [s4, ml_up_k np, p2]
  have p6 : σ6 p = σ p := by rw [s6, ml_up_k np, p4]
  have p8 : σ8 p = σ p := by rw [s8, ml_up_k np, p6]
  have p10 : σ10 p = σ p := by rw [s10, ml_up_k np, p8]
  have p12 : σ12 p = σ p := by rw [s12, ml_up_k np, p10]
  have u : ∀ j, j ≠ th → σ14 j = σ2 j := fun j hj => by rw [s14, ml_up_k hj, s12, ml_up_k hj, s10, ml_up_k hj, s8, ml_up_k hj, s6, ml_up_k hj, s4, ml_up_k hj]
  refine k σ14 (fun j h1 h2 h3 => by rw [u j h1, s2, mt_cpy_k h3, s1, mt_cpy_k h2]) ⟨fun e e0 e1 => ?_, ?_⟩
  · rw [u (th + 1) (by omega), u (th + 2) (by omega)]
    have e1' : σ2 (th + 1) e = σ (p + 1) e := by rw [s2, mt_cpy_k (by omega), s1, mt_cpy2, if_pos ⟨rfl, e0, by omega⟩]; congr 1; omega
    have e2' : σ2 (th + 2) e = σ (p + 2) e := by rw [s2, mt_cpy2, if_pos ⟨rfl, e0, by omega⟩, s1, mt_cpy_k (by omega)]; congr 1; omega
    rw [e1', e2']
    exact wr e e0 e1
  · rw [s14, p12, s12, p10, s10, p8, s8, p6, s6, p4, s4, p2, w20, w21, w22, w23, w24, w25]
    simp only [mt_up2]
    simp
theorem mt_i {x : Int} (h0 : -2000 ≤ x) (h1 : x < 2000) : I32 x := ⟨by omega, by omega⟩
theorem s_joins {Q : ml_St → Prop} {m x y n : Int} {τ : ml_St} (r : 0 ≤ m ∧ m < 64) (x0 : 0 ≤ x ∧ x < 10) (y0 : 0 ≤ y ∧ y < 10) (k : Q (ml_up (ml_up (ml_up (ml_up τ 227 (10 * m + x) y) 227 (10 * m + y) x) 228 (10 * m + x) n) 228 (10 * m + y) n)) : f_X12_joins τ m x y n Q := by
  unfold f_X12_joins f_X12_joins_u0
  refine ⟨mt_i (by omega) (by omega), mt_i (by omega) (by omega), by omega, by omega, fun σ1 g1 => ⟨mt_i (by omega) (by omega), mt_i (by omega) (by omega), by omega, by omega, fun σ2 g2 => ⟨mt_i (by omega) (by omega), mt_i (by omega) (by omega), by omega, by omega, fun σ3 g3 => ⟨mt_i (by omega) (by omega), mt_i (by omega) (by omega), by omega, by omega, fun σ4 g4 => ?_⟩⟩⟩⟩
  subst g1; subst g2; subst g3; subst g4
  exact k
theorem mt_mf_joins {m x y n c : Int} {τ : ml_St} (x0 : 0 ≤ x ∧ x < 10) (y0 : 0 ≤ y ∧ y < 10) : mt_mf m τ (ml_up (ml_up (ml_up (ml_up τ 227 (10 * m + x) y) 227 (10 * m + y) x) 228 (10 * m + x) n) 228 (10 * m + y) n) :=
  mt_mf_t (mt_mf_t (mt_mf_t (mt_mf_row (by omega) (by omega) (by omega)) (mt_mf_row (by omega) (by omega) (by omega))) (mt_mf_row (by omega) (by omega) (by omega))) (mt_mf_row (by omega) (by omega) (by omega))
/-- a frame without rails seen and way gone -/
theorem s_straight {Q : ml_St → Prop} {m h : Int} {τ : ml_St} (h2 : 2 ≤ h) (h5 : h ≤ 5) (r : 0 ≤ m ∧ m < 64) (th : τ 215 2 = h) (k : ∀ σ, mt_mf m τ σ → mt_mv h σ m (mt_str h) → Q σ) : f_X12_straight τ m Q := by
  have L : ∀ (N : Nat) (n : Int) (σ : ml_St), 0 ≤ n → n ≤ h → h - n < N → mt_mf m τ σ → (∀ e, 0 ≤ e → e < 2 * h → (e < n ∨ (h ≤ e ∧ e < h + n)) → σ 227 (10 * m + e) = mt_str h e ∧ σ 228 (10 * m + e) = mt_str h (10 + e)) → f_X12_straight_u2 Q (f_X12_straight_u29 Q) N σ m n := by
    intro N
    induction N with
    | zero => intro n σ n0 n1 hN; omega
    | succ N ih =>
      intro n σ n0 n1 hN f hr
      have th1 : σ 215 2 = h := by rw [f.2.1 2 (by omega), th]
      unfold f_X12_straight_u2
      rw [th1]
      refine fun _ => ⟨fun c => ?_, fun c _ => ⟨mt_i (by omega) (by omega), ?_⟩⟩
      · unfold f_X12_straight_u29
        refine ⟨r.1, r.2, fun σ1 s1 => ⟨r.1, r.2, fun σ2 s2 => ⟨r.1, r.2, fun σ3 s3 => ?_⟩⟩⟩
        refine k σ3 ?_ ⟨fun e e0 e1 => ?_, ?_⟩
        · rw [s3, s2, s1]
          exact mt_mf_t (mt_mf_t (mt_mf_t f (mt_mf_fld (by omega))) (mt_mf_fld (by omega))) (mt_mf_fld (by omega))
        · rw [s3, s2, s1, ml_up_k (by omega), ml_up_k (by omega), ml_up_k (by omega), ml_up_k (by omega), ml_up_k (by omega), ml_up_k (by omega)]
          exact hr e e0 e1 (by omega)
        · rw [s3, s2, s1]
          simp [ml_up, mt_str]
      · refine s_joins r ⟨by omega, by omega⟩ ⟨by omega, by omega⟩ ⟨mt_i (by omega) (by omega), fun y6 e6 => ?_⟩
        subst e6
        refine ih (n + 1) _ (by omega) (by omega) (by omega) (mt_mf_t f (mt_mf_joins (c := 0) ⟨by omega, by omega⟩ ⟨by omega, by omega⟩)) (fun e e0 e1 c => ?_)
        obtain ⟨g1, g2⟩ := mt_str_e h5 e0 e1
        rw [g1, g2]
        rw [ml_up_k (show (227:Int) ≠ 228 by omega), ml_up_k (show (227:Int) ≠ 228 by omega)]
        by_cases q1 : e = h + n
        · rw [q1, ml_up_same, ml_up_same, if_neg (by omega)]
          exact ⟨by omega, rfl⟩
        · rw [ml_up_i (by omega), ml_up_i (show 10 * m + e ≠ 10 * m + (h + n) by omega)]
          by_cases q2 : e = n
          · rw [q2, ml_up_same, ml_up_same, if_pos (by omega)]
            exact ⟨by omega, rfl⟩
          · rw [ml_up_i (by omega), ml_up_i (show 10 * m + e ≠ 10 * m + n by omega), ml_up_k (show (228:Int) ≠ 227 by omega), ml_up_k (show (228:Int) ≠ 227 by omega)]
            have := hr e e0 e1 (by omega)
            rw [g1, g2] at this
            exact this
  unfold f_X12_straight f_X12_straight_u0
  exact ⟨h.toNat + 1, L _ 0 τ (by omega) (by omega) (by omega) mt_mf_r (fun e e0 e1 c => absurd c (by omega))⟩
theorem s_sign {Q : ml_St → Prop} {m h i c : Int} {τ : ml_St} (h2 : 2 ≤ h) (h5 : h ≤ 5) (r : 0 ≤ m ∧ m < 64) (th : τ 215 2 = h) (i0 : 0 ≤ i) (i1 : i + 2 ≤ h) (k : ∀ σ, mt_mf m τ σ → mt_mv h σ m (mt_sgn h i (if c = 0 then 1 else 0)) → Q σ) : f_X12_sign τ m c i Q := by
  unfold f_X12_sign f_X12_sign_u0
  refine s_straight h2 h5 r th (fun σ1 f1 w1 => ?_)
  obtain ⟨wr, w20, w21, w22⟩ := w1
  have th1 : σ1 215 2 = h := by rw [f1.2.1 2 (by omega), th]
  have fin : ∀ x1 y1 x2 y2 : Int, 0 ≤ x1 ∧ x1 < 10 → 0 ≤ y1 ∧ y1 < 10 → 0 ≤ x2 ∧ x2 < 10 → 0 ≤ y2 ∧ y2 < 10 → (∀ e, 0 ≤ e → e < 2 * h → mt_sgn h i (if c = 0 then 1 else 0) e = (if e = y2 then x2 else if e = x2 then y2 else if e = y1 then x1 else if e = x1 then y1 else mt_str h e) ∧ mt_sgn h i (if c = 0 then 1 else 0) (10 + e) = (if e = y2 then 1 else if e = x2 then 1 else if e = y1 then 1 else if e = x1 then 1 else 0)) → Q (ml_up (ml_up (ml_up (ml_up (ml_up (ml_up (ml_up (ml_up σ1 227 (10 * m + x1) y1) 227 (10 * m + y1) x1) 228 (10 * m + x1) 1) 228 (10 * m + y1) 1) 227 (10 * m + x2) y2) 227 (10 * m + y2) x2) 228 (10 * m + x2) 1) 228 (10 * m + y2) 1) := by
    intro x1 y1 x2 y2 a1 a2 a3 a4 hh
    refine k _ (mt_mf_t (mt_mf_t f1 (mt_mf_joins (c := 0) a1 a2)) (mt_mf_joins (c := 0) a3 a4)) ⟨fun e e0 e1 => ?_, ?_⟩
    · rw [(hh e e0 e1).1, (hh e e0 e1).2, ← (wr e e0 e1).1]
      have z : σ1 228 (10 * m + e) = 0 := by rw [(wr e e0 e1).2, (mt_str_e h5 e0 e1).2]
      have ne : (227 : Int) ≠ 228 := by omega
      have ne2 : (228 : Int) ≠ 227 := by omega
      simp only [mt_up2, ne, ne2, false_and, if_false, true_and, z]
      have q : ∀ x : Int, (10 * m + e = 10 * m + x) = (e = x) := fun x => by apply propext; constructor <;> omega
      simp only [q]
      refine ⟨?_, ?_⟩ <;> first | trivial | rfl
    · rw [ml_up_k (by omega), ml_up_k (by omega), ml_up_k (by omega), ml_up_k (by omega), ml_up_k (by omega), ml_up_k (by omega), ml_up_k (by omega), ml_up_k (by omega), ml_up_k (show (230:Int) ≠ 228 by omega), ml_up_k (show (230:Int) ≠ 228 by omega), ml_up_k (show (230:Int) ≠ 227 by omega), ml_up_k (show (230:Int) ≠ 227 by omega), ml_up_k (show (230:Int) ≠ 228 by omega), ml_up_k (show (230:Int) ≠ 228 by omega), ml_up_k (show (230:Int) ≠ 227 by omega), ml_up_k (show (230:Int) ≠ 227 by omega), ml_up_k (show (231:Int) ≠ 228 by omega), ml_up_k (show (231:Int) ≠ 228 by omega), ml_up_k (show (231:Int) ≠ 227 by omega), ml_up_k (show (231:Int) ≠ 227 by omega), ml_up_k (show (231:Int) ≠ 228 by omega), ml_up_k (show (231:Int) ≠ 228 by omega), ml_up_k (show (231:Int) ≠ 227 by omega), ml_up_k (show (231:Int) ≠ 227 by omega), w20, w21, w22]
      simp [mt_sgn, mt_str]
  by_cases hc : c = 0
  · rw [if_pos hc] at fin
    refine ⟨fun _ => ⟨mt_i (by omega) (by omega), ?_⟩, fun d => absurd hc d⟩
    unfold f_X12_sign_u26
    refine s_joins r ⟨by omega, by omega⟩ ⟨by omega, by omega⟩ ⟨fun _ _ => ?_, fun d => absurd hc d⟩
    have v : ∀ a b c d, ml_up (ml_up (ml_up (ml_up σ1 227 a b) 227 c d) 228 a 1) 228 c 1 215 2 = h := fun a b c d => by rw [ml_up_k (by omega), ml_up_k (by omega), ml_up_k (by omega), ml_up_k (by omega), th1]
    rw [v]
    refine ⟨mt_i (by omega) (by omega), ?_⟩
    unfold f_X12_sign_u48
    refine ⟨fun _ _ => ?_, fun d => absurd hc d⟩
    rw [v]
    refine ⟨mt_i (by omega) (by omega), mt_i (by omega) (by omega), ?_⟩
    unfold f_X12_sign_u69
    refine s_joins r ⟨by omega, by omega⟩ ⟨by omega, by omega⟩ (fin i (i + 1) (h + i) (h + i + 1) ⟨by omega, by omega⟩ ⟨by omega, by omega⟩ ⟨by omega, by omega⟩ ⟨by omega, by omega⟩ (fun e e0 e1 => ?_))
    unfold mt_sgn
    rw [if_pos (show e < 10 by omega), if_neg (show ¬ ((1:Int) = 0) by omega), if_neg (show ¬ 10 + e < 10 by omega), if_pos (show 10 + e < 20 by omega)]
    constructor
    · (repeat' split) <;> first | rfl | omega
    · by_cases q1 : e = i <;> by_cases q2 : e = i + 1 <;> by_cases q3 : e = h + i <;> by_cases q4 : e = h + i + 1 <;> simp [q1, q2, q3, q4] <;> omega
  · rw [if_neg hc] at fin
    refine ⟨fun d => absurd d hc, fun _ _ => ?_⟩
    rw [th1]
    refine ⟨mt_i (by omega) (by omega), mt_i (by omega) (by omega), ?_⟩
    unfold f_X12_sign_u26
    refine s_joins r ⟨by omega, by omega⟩ ⟨by omega, by omega⟩ ⟨fun d => absurd d hc, fun _ => ⟨mt_i (by omega) (by omega), ?_⟩⟩
    have v : ∀ a b c d, ml_up (ml_up (ml_up (ml_up σ1 227 a b) 227 c d) 228 a 1) 228 c 1 215 2 = h := fun a b c d => by rw [ml_up_k (by omega), ml_up_k (by omega), ml_up_k (by omega), ml_up_k (by omega), th1]
    unfold f_X12_sign_u48
    refine ⟨fun d => absurd d hc, fun _ _ => ?_⟩
    rw [v]
    refine ⟨mt_i (by omega) (by omega), ?_⟩
    unfold f_X12_sign_u69
    refine s_joins r ⟨by omega, by omega⟩ ⟨by omega, by omega⟩ (fin i (h + i + 1) (i + 1) (h + i) ⟨by omega, by omega⟩ ⟨by omega, by omega⟩ ⟨by omega, by omega⟩ ⟨by omega, by omega⟩ (fun e e0 e1 => ?_))
    unfold mt_sgn
    rw [if_pos (show e < 10 by omega), if_pos rfl, if_neg (show ¬ 10 + e < 10 by omega), if_pos (show 10 + e < 20 by omega)]
    constructor
    · (repeat' split) <;> first | rfl | omega
    · by_cases q1 : e = i <;> by_cases q2 : e = i + 1 <;> by_cases q3 : e = h + i <;> by_cases q4 : e = h + i + 1 <;> simp [q1, q2, q3, q4] <;> omega
theorem s_copies {Q : ml_St → Prop} {x1 x2 h : Int} {τ : ml_St} {v : Int → Int} (h2 : 2 ≤ h) (h5 : h ≤ 5) (r1 : 0 ≤ x1 ∧ x1 < 64) (r2 : 0 ≤ x2 ∧ x2 < 64) (d : x1 ≠ x2) (th : τ 215 2 = h) (w : mt_mv h τ x1 v) (k : ∀ σ, mt_mf x2 τ σ → mt_mv h σ x2 v → Q σ) : f_X12_copies τ x1 x2 Q := by
  have L : ∀ (N : Nat) (n : Int) (σ : ml_St), 0 ≤ n → n ≤ 2 * h → 2 * h - n < N → mt_mf x2 τ σ → (∀ e, 0 ≤ e → e < n → σ 227 (10 * x2 + e) = v e ∧ σ 228 (10 * x2 + e) = v (10 + e)) → f_X12_copies_u2 Q (f_X12_copies_u62 Q) N σ x1 x2 n := by
    intro N
    induction N with
    | zero => intro n σ n0 n1 hN; omega
    | succ N ih =>
      intro n σ n0 n1 hN f hr
      have th1 : σ 215 2 = h := by rw [f.2.1 2 (by omega), th]
      have w1 := mt_mv_f h5 f d w
      unfold f_X12_copies_u2
      rw [th1]
      refine fun _ => ⟨mt_i (by omega) (by omega), fun c => ?_, fun c => ⟨mt_i (by omega) (by omega), mt_i (by omega) (by omega), mt_i (by omega) (by omega), mt_i (by omega) (by omega), by omega, by omega, fun _ => ⟨by omega, by omega, fun σ9 s9 => ⟨mt_i (by omega) (by omega), mt_i (by omega) (by omega), mt_i (by omega) (by omega), mt_i (by omega) (by omega), by omega, by omega, fun _ => ⟨by omega, by omega, fun σ15 s15 => ⟨mt_i (by omega) (by omega), fun y e => ?_⟩⟩⟩⟩⟩⟩
      · obtain ⟨-, w20, w21, w22⟩ := w1
        unfold f_X12_copies_u62
        refine ⟨r1.1, r1.2, fun _ => ⟨r2.1, r2.2, fun σ2 s2 => ⟨r1.1, r1.2, fun _ => ⟨r2.1, r2.2, fun σ4 s4 => ⟨r1.1, r1.2, fun _ => ⟨r2.1, r2.2, fun σ6 s6 => ?_⟩⟩⟩⟩⟩⟩
        have u230 : σ2 230 x1 = σ 230 x1 := by rw [s2, ml_up_k (by omega)]
        have u231 : σ4 231 x1 = σ 231 x1 := by rw [s4, ml_up_k (by omega), s2, ml_up_k (by omega)]
        refine k σ6 ?_ ⟨fun e e0 e1 => ?_, ?_⟩
        · rw [s6, s4, s2]
          exact mt_mf_t (mt_mf_t (mt_mf_t f (mt_mf_fld (by omega))) (mt_mf_fld (by omega))) (mt_mf_fld (by omega))
        · rw [s6, s4, s2, ml_up_k (by omega), ml_up_k (by omega), ml_up_k (by omega), ml_up_k (by omega), ml_up_k (by omega), ml_up_k (by omega)]
          exact hr e e0 (by omega)
        · rw [s6, u231, s4, u230, s2, w20, w21, w22]
          simp [ml_up]
      · subst e
        obtain ⟨g1, g2⟩ := w1.1 n n0 (by omega)
        have v9 : σ9 228 (10 * x1 + n) = v (10 + n) := by rw [s9, ml_up_k (by omega), g2]
        refine ih (n + 1) σ15 (by omega) (by omega) (by omega) ?_ (fun e e0 e1 => ?_)
        · rw [s15, s9]
          exact mt_mf_t (mt_mf_t f (mt_mf_row (by omega) (by omega) (by omega))) (mt_mf_row (by omega) (by omega) (by omega))
        · rw [s15, ml_up_k (show (227:Int) ≠ 228 by omega), v9, s9, g1]
          by_cases q : e = n
          · rw [q, ml_up_same, ml_up_same]; exact ⟨rfl, rfl⟩
          · rw [ml_up_i (by omega), ml_up_i (by omega), ml_up_k (by omega)]
            exact hr e e0 (by omega)
  unfold f_X12_copies f_X12_copies_u0
  exact ⟨(2 * h).toNat + 1, L _ 0 τ (by omega) (by omega) (by omega) mt_mf_r (fun e e0 e1 => absurd e1 (by omega))⟩
/-! closing: the loops of two matchings laid on each other (pure) -/
def mt_z (α β : Int → Int) (e : Int) : Nat → Int
  | 0 => e
  | i + 1 => if i % 2 = 0 then α (mt_z α β e i) else β (mt_z α β e i)
theorem mt_z_r {h : Int} {α β : Int → Int} {e : Int} (ha : mt_M h α) (hb : mt_M h β) (e0 : 0 ≤ e) (e1 : e < 2 * h) : ∀ i, 0 ≤ mt_z α β e i ∧ mt_z α β e i < 2 * h := by
  intro i
  induction i with
  | zero => exact ⟨e0, e1⟩
  | succ i ih =>
    unfold mt_z
    split
    · have := ha _ ih.1 ih.2; exact ⟨this.1, this.2.1⟩
    · have := hb _ ih.1 ih.2; exact ⟨this.1, this.2.1⟩
theorem mt_z_e {α β : Int → Int} {e : Int} {i : Nat} (q : i % 2 = 0) : mt_z α β e (i + 1) = α (mt_z α β e i) := by
  conv => lhs; unfold mt_z
  exact if_pos q
theorem mt_z_o {α β : Int → Int} {e : Int} {i : Nat} (q : i % 2 = 1) : mt_z α β e (i + 1) = β (mt_z α β e i) := by
  conv => lhs; unfold mt_z
  exact if_neg (by omega)
theorem mt_z_be {h : Int} {α β : Int → Int} {e : Int} (ha : mt_M h α) (hb : mt_M h β) (e0 : 0 ≤ e) (e1 : e < 2 * h) {i : Nat} (q : i % 2 = 0) : α (mt_z α β e (i + 1)) = mt_z α β e i := by
  have r := mt_z_r ha hb e0 e1 i
  rw [mt_z_e q]; exact (ha _ r.1 r.2).2.2.1
theorem mt_z_bo {h : Int} {α β : Int → Int} {e : Int} (ha : mt_M h α) (hb : mt_M h β) (e0 : 0 ≤ e) (e1 : e < 2 * h) {i : Nat} (q : i % 2 = 1) : β (mt_z α β e (i + 1)) = mt_z α β e i := by
  have r := mt_z_r ha hb e0 e1 i
  rw [mt_z_o q]; exact (hb _ r.1 r.2).2.2.1
theorem mt_z_par {h : Int} {α β : Int → Int} {e : Int} (ha : mt_M h α) (hb : mt_M h β) (e0 : 0 ≤ e) (e1 : e < 2 * h) : ∀ (d a : Nat), d % 2 = 1 → mt_z α β e a ≠ mt_z α β e (a + d) := by
  intro d
  induction d using Nat.strongRecOn with
  | ind d ih =>
    intro a hd q
    have r := mt_z_r ha hb e0 e1
    by_cases d1 : d = 1
    · subst d1
      rcases Nat.mod_two_eq_zero_or_one a with p | p
      · rw [mt_z_e p] at q; exact (ha _ (r a).1 (r a).2).2.2.2 q.symm
      · rw [mt_z_o p] at q; exact (hb _ (r a).1 (r a).2).2.2.2 q.symm
    · refine ih (d - 2) (by omega) (a + 1) (by omega) ?_
      obtain ⟨c, hc⟩ : ∃ c, a + d = c + 1 := ⟨a + d - 1, by omega⟩
      rw [hc] at q
      rw [show a + 1 + (d - 2) = c by omega]
      rcases Nat.mod_two_eq_zero_or_one a with p | p
      · rw [mt_z_e p, q, mt_z_be ha hb e0 e1 (by omega)]
      · rw [mt_z_o p, q, mt_z_bo ha hb e0 e1 (by omega)]
theorem mt_z_down {h : Int} {α β : Int → Int} {e : Int} (ha : mt_M h α) (hb : mt_M h β) (e0 : 0 ≤ e) (e1 : e < 2 * h) : ∀ (a d : Nat), d % 2 = 0 → mt_z α β e a = mt_z α β e (a + d) → mt_z α β e d = e := by
  intro a
  induction a with
  | zero => intro d hd q; rw [Nat.zero_add] at q; exact q.symm
  | succ a ih =>
    intro d hd q
    refine ih d hd ?_
    rw [show a + 1 + d = (a + d) + 1 by omega] at q
    rcases Nat.mod_two_eq_zero_or_one a with p | p
    · rw [← mt_z_be ha hb e0 e1 p, q, mt_z_be ha hb e0 e1 (by omega)]
    · rw [← mt_z_bo ha hb e0 e1 p, q, mt_z_bo ha hb e0 e1 (by omega)]
theorem mt_least {P : Nat → Prop} : ∀ n, P n → ∃ m, m ≤ n ∧ P m ∧ ∀ k, k < m → ¬ P k := by
  intro n
  induction n using Nat.strongRecOn with
  | ind n ih =>
    intro hn
    by_cases q : ∃ k, k < n ∧ P k
    · obtain ⟨k, k1, k2⟩ := q
      obtain ⟨m, m1, m2, m3⟩ := ih k k1 k2
      exact ⟨m, by omega, m2, m3⟩
    · exact ⟨n, Nat.le_refl n, hn, fun k hk hp => q ⟨k, hk, hp⟩⟩
theorem mt_z_cyc {h : Int} {α β : Int → Int} {e : Int} (h5 : h ≤ 5) (ha : mt_M h α) (hb : mt_M h β) (e0 : 0 ≤ e) (e1 : e < 2 * h) : ∃ n, 1 ≤ n ∧ n ≤ 10 ∧ mt_z α β e (2 * n) = e ∧ ∀ i j, i < j → j < 2 * n → mt_z α β e i ≠ mt_z α β e j := by
  obtain ⟨n, n1, n2, n3⟩ := mt_ring (g := fun x => β (α x)) (I := fun x => 0 ≤ x ∧ x < 2 * h) (m := (2 * h).toNat) (s := e) ⟨e0, e1⟩
    (fun a ra => by
      have g := ha a ra.1 ra.2
      have g2 := hb _ g.1 g.2.1
      exact ⟨g2.1, g2.2.1⟩)
    (fun a ra => ⟨ra.1, by omega⟩)
    (fun a b ra rb q => by
      have g := ha a ra.1 ra.2
      have g' := ha b rb.1 rb.2
      have k := hb _ g.1 g.2.1
      have k' := hb _ g'.1 g'.2.1
      have q : β (α a) = β (α b) := q
      rw [← g.2.2.1, ← k.2.2.1, q, k'.2.2.1, g'.2.2.1])
  have it : ∀ n : Nat, Nat.rec (motive := fun _ => Int) e (fun _ y => β (α y)) n = mt_z α β e (2 * n) := by
    intro n
    induction n with
    | zero => rfl
    | succ n ih =>
      show β (α (Nat.rec (motive := fun _ => Int) e (fun _ y => β (α y)) n)) = _
      rw [ih, show 2 * (n + 1) = (2 * n + 1) + 1 by omega, mt_z_o (by omega), mt_z_e (by omega)]
  have n3 : mt_z α β e (2 * n) = e := by rw [← it]; exact n3
  obtain ⟨m, m1, ⟨m2, m3⟩, m4⟩ := mt_least (P := fun n => 1 ≤ n ∧ mt_z α β e (2 * n) = e) n ⟨n1, n3⟩
  refine ⟨m, m2, by omega, m3, fun i j hij hj q => ?_⟩
  rcases Nat.mod_two_eq_zero_or_one (j - i) with p | p
  · have := mt_z_down ha hb e0 e1 i (j - i) p (by rw [show i + (j - i) = j by omega]; exact q)
    exact m4 ((j - i) / 2) (by omega) ⟨by omega, by rw [show 2 * ((j - i) / 2) = j - i by omega]; exact this⟩
  · exact mt_z_par ha hb e0 e1 (j - i) i p (by rw [show i + (j - i) = j by omega]; exact q)
/-- the loop of e: which ends -/
def mt_lf (α β : Int → Int) (e : Int) : Nat → Int → Int → Int
  | 0, _, m => m
  | F + 1, a, m => if mb_t m e = 0 then mt_lf α β e F (β (α a)) (b_or m (b_or (b_shl 1 (α a)) (b_shl 1 (β (α a))))) else m
def mt_lm (α β : Int → Int) (e : Int) : Int := mt_lf α β e 11 e 0
theorem mt_lm_bit {h : Int} {α β : Int → Int} {e : Int} {n : Nat} (h5 : h ≤ 5) (ha : mt_M h α) (hb : mt_M h β) (e0 : 0 ≤ e) (e1 : e < 2 * h) (n1 : 1 ≤ n) (n2 : n ≤ 10) (n3 : mt_z α β e (2 * n) = e) (n4 : ∀ i j, i < j → j < 2 * n → mt_z α β e i ≠ mt_z α β e j) : mb_m 10 (mt_lm α β e) ∧ ∀ j, 0 ≤ j → j < 2 * h → (mb_t (mt_lm α β e) j = 1 ↔ ∃ i, i < 2 * n ∧ mt_z α β e i = j) := by
  have r := mt_z_r ha hb e0 e1
  have L : ∀ (F k : Nat) (m : Int), k ≤ n → F + k = 11 → mb_m 10 m → (∀ j, 0 ≤ j → j < 2 * h → (mb_t m j = 1 ↔ ∃ i, 1 ≤ i ∧ i ≤ 2 * k ∧ mt_z α β e i = j)) → mb_m 10 (mt_lf α β e F (mt_z α β e (2 * k)) m) ∧ ∀ j, 0 ≤ j → j < 2 * h → (mb_t (mt_lf α β e F (mt_z α β e (2 * k)) m) j = 1 ↔ ∃ i, i < 2 * n ∧ mt_z α β e i = j) := by
    intro F
    induction F with
    | zero => intro k m hk hF; omega
    | succ F ih =>
      intro k m hk hF hm hj
      unfold mt_lf
      by_cases q : k = n
      · subst q
        have b1 : mb_t m e = 1 := (hj e e0 e1).2 ⟨2 * k, by omega, by omega, n3⟩
        rw [if_neg (by omega)]
        refine ⟨hm, fun j j0 j1 => ?_⟩
        rw [hj j j0 j1]
        constructor
        · rintro ⟨i, i1, i2, i3⟩
          by_cases z : i = 2 * k
          · subst z; exact ⟨0, by omega, by rw [← i3, n3]; rfl⟩
          · exact ⟨i, by omega, i3⟩
        · rintro ⟨i, i2, i3⟩
          by_cases z : i = 0
          · subst z; exact ⟨2 * k, by omega, by omega, by rw [n3, ← i3]; rfl⟩
          · exact ⟨i, by omega, by omega, i3⟩
      · have b0 : mb_t m e = 0 := by
          rcases mb_t_01 m e with y | y
          · exact y
          · obtain ⟨i, i1, i2, i3⟩ := (hj e e0 e1).1 y
            exact absurd i3.symm (n4 0 i (by omega) (by omega))
        rw [if_pos b0]
        have z1 : α (mt_z α β e (2 * k)) = mt_z α β e (2 * k + 1) := (mt_z_e (by omega)).symm
        have z2 : β (mt_z α β e (2 * k + 1)) = mt_z α β e (2 * (k + 1)) := (mt_z_o (i := 2 * k + 1) (by omega)).symm
        rw [z1, z2]
        obtain ⟨a1, a2⟩ := mb_shl_m (k := 10) (by omega) (r (2 * k + 1)).1 (by have := (r (2 * k + 1)).2; omega)
        obtain ⟨c1, c2⟩ := mb_shl_m (k := 10) (by omega) (r (2 * (k + 1))).1 (by have := (r (2 * (k + 1))).2; omega)
        obtain ⟨d1, d2⟩ := mb_or_m (k := 10) (by omega) a1 c1
        obtain ⟨f1, f2⟩ := mb_or_m (k := 10) (by omega) hm d1
        refine ih (k + 1) _ (by omega) (by omega) f1 (fun j j0 j1 => ?_)
        rw [f2 j j0 (by omega), d2 j j0 (by omega), a2 j j0 (by omega), c2 j j0 (by omega)]
        constructor
        · intro c
          by_cases y : mb_t m j = 1
          · obtain ⟨i, i1, i2, i3⟩ := (hj j j0 j1).1 y
            exact ⟨i, i1, by omega, i3⟩
          · by_cases x1 : j = mt_z α β e (2 * k + 1)
            · exact ⟨2 * k + 1, by omega, by omega, x1.symm⟩
            · by_cases x2 : j = mt_z α β e (2 * (k + 1))
              · exact ⟨2 * (k + 1), by omega, by omega, x2.symm⟩
              · simp [y, x1, x2] at c
        · rintro ⟨i, i1, i2, i3⟩
          by_cases x1 : i = 2 * k + 1
          · subst x1; simp [← i3]
          · by_cases x2 : i = 2 * (k + 1)
            · subst x2; simp [← i3]
            · have y := (hj j j0 j1).2 ⟨i, i1, by omega, i3⟩
              simp [y]
  have := L 11 0 0 (by omega) (by omega) ⟨by omega, by omega⟩ (fun j j0 j1 => by
    rw [mb_0]
    exact ⟨fun c => absurd c (by omega), fun ⟨i, i1, i2, _⟩ => absurd i2 (by omega)⟩)
  exact this
/-- how many loops -/
def mt_lbs (α β : Int → Int) : Nat → Int × Int
  | 0 => (0, 0)
  | n + 1 => if mb_t (mt_lbs α β n).1 n = 0 then (b_or (mt_lbs α β n).1 (mt_lm α β n), (mt_lbs α β n).2 + 1) else mt_lbs α β n
def mt_cl (h : Int) (α β : Int → Int) : Int := (mt_lbs α β (2 * h).toNat).2
theorem mt_lbs_C {h : Int} {α β : Int → Int} (h5 : h ≤ 5) (ha : mt_M h α) (hb : mt_M h β) : ∀ n : Nat, (n : Int) ≤ 2 * h → mb_m 10 (mt_lbs α β n).1 ∧ 0 ≤ (mt_lbs α β n).2 ∧ (mt_lbs α β n).2 ≤ n ∧ ∀ j, 0 ≤ j → j < 2 * h → mb_t (mt_lbs α β n).1 j = 0 → mb_t (mt_lbs α β n).1 (α j) = 0 ∧ mb_t (mt_lbs α β n).1 (β j) = 0 := by
  intro n
  induction n with
  | zero => intro _; exact ⟨⟨by show (0:Int) ≤ 0; omega, by show (0:Int) < _; omega⟩, by show (0:Int) ≤ 0; omega, by show (0:Int) ≤ _; omega, fun j _ _ _ => ⟨mb_0 _, mb_0 _⟩⟩
  | succ n ih =>
    intro hn
    obtain ⟨i1, i2, i3, i4⟩ := ih (by omega)
    by_cases q : mb_t (mt_lbs α β n).1 n = 0
    · have e : mt_lbs α β (n + 1) = (b_or (mt_lbs α β n).1 (mt_lm α β n), (mt_lbs α β n).2 + 1) := by
        conv => lhs; unfold mt_lbs
        exact if_pos q
      obtain ⟨m, m1, m2, m3, m4⟩ := mt_z_cyc (e := n) h5 ha hb (by omega) (by omega)
      obtain ⟨l1, l2⟩ := mt_lm_bit (e := n) h5 ha hb (by omega) (by omega) m1 m2 m3 m4
      obtain ⟨o1, o2⟩ := mb_or_m (k := 10) (by omega) i1 l1
      rw [e]
      refine ⟨o1, by show (0:Int) ≤ (mt_lbs α β n).2 + 1; omega, by show (mt_lbs α β n).2 + 1 ≤ _; omega, fun j j0 j1 hz => ?_⟩
      have hz : mb_t (b_or (mt_lbs α β n).1 (mt_lm α β n)) j = 0 := hz
      show mb_t (b_or (mt_lbs α β n).1 (mt_lm α β n)) (α j) = 0 ∧ mb_t (b_or (mt_lbs α β n).1 (mt_lm α β n)) (β j) = 0
      rw [o2 j j0 (by omega)] at hz
      have nz : ¬ (mb_t (mt_lbs α β n).1 j = 1 ∨ mb_t (mt_lm α β n) j = 1) := fun c => by rw [if_pos c] at hz; omega
      have k1 : mb_t (mt_lbs α β n).1 j = 0 := by
        rcases mb_t_01 (mt_lbs α β n).1 j with y | y
        · exact y
        · exact absurd (Or.inl y) nz
      have k2 : ¬ ∃ i, i < 2 * m ∧ mt_z α β n i = j := fun c => nz (Or.inr ((l2 j j0 j1).2 c))
      obtain ⟨p1, p2⟩ := i4 j j0 j1 k1
      have fin : ∀ x, 0 ≤ x → x < 2 * h → mb_t (mt_lbs α β n).1 x = 0 → (¬ ∃ i, i < 2 * m ∧ mt_z α β n i = x) → mb_t (b_or (mt_lbs α β n).1 (mt_lm α β n)) x = 0 := by
        intro x x0 x1 y1 y2
        rw [o2 x x0 (by omega), if_neg]
        rintro (c | c)
        · omega
        · exact y2 ((l2 x x0 x1).1 c)
      have ra := ha j j0 j1
      have rb := hb j j0 j1
      refine ⟨fin _ ra.1 ra.2.1 p1 (fun ⟨i, c1, c2⟩ => k2 ?_), fin _ rb.1 rb.2.1 p2 (fun ⟨i, c1, c2⟩ => k2 ?_)⟩
      · rcases Nat.mod_two_eq_zero_or_one i with p | p
        · by_cases z : i + 1 < 2 * m
          · exact ⟨i + 1, z, by rw [mt_z_e p, c2]; exact ra.2.2.1⟩
          · omega
        · obtain ⟨i, rfl⟩ : ∃ k, i = k + 1 := ⟨i - 1, by omega⟩
          exact ⟨i, by omega, by rw [← mt_z_be ha hb (by omega) (by omega) (by omega : i % 2 = 0), c2]; exact ra.2.2.1⟩
      · rcases Nat.mod_two_eq_zero_or_one i with p | p
        · by_cases z : i = 0
          · subst z
            refine ⟨2 * m - 1, by omega, ?_⟩
            have g : β (mt_z α β n (2 * m - 1 + 1)) = mt_z α β n (2 * m - 1) := mt_z_bo ha hb (by omega) (by omega) (by omega)
            rw [show 2 * m - 1 + 1 = 2 * m by omega, m3] at g
            have c2 : (n : Int) = β j := c2
            rw [← g, c2]; exact rb.2.2.1
          · obtain ⟨i, rfl⟩ : ∃ k, i = k + 1 := ⟨i - 1, by omega⟩
            exact ⟨i, by omega, by rw [← mt_z_bo ha hb (by omega) (by omega) (by omega : i % 2 = 1), c2]; exact rb.2.2.1⟩
        · by_cases z : i + 1 < 2 * m
          · exact ⟨i + 1, z, by rw [mt_z_o p, c2]; exact rb.2.2.1⟩
          · refine ⟨0, by omega, ?_⟩
            have g : mt_z α β n (i + 1) = β (mt_z α β n i) := mt_z_o p
            rw [show i + 1 = 2 * m by omega, m3, c2, rb.2.2.1] at g
            exact g
    · have e : mt_lbs α β (n + 1) = mt_lbs α β n := by
        conv => lhs; unfold mt_lbs
        exact if_neg q
      rw [e]
      exact ⟨i1, i2, by omega, i4⟩
/-! closing: the class, the model -/
theorem s_loopFrom {Q : Int → ml_St → Prop} {p2 h e : Int} {σ : ml_St} {α β : Int → Int} (h5 : h ≤ 5) (ha : mt_M h α) (hb : mt_M h β) (e0 : 0 ≤ e) (e1 : e < 2 * h) (ra : mt_eq h (σ (p2 + 1)) α) (rb : mt_eq h (σ 5) β) (k : Q (mt_lm α β e) σ) : f_X0_loopFrom σ p2 e Q := by
  have L : ∀ (F : Nat) (a m x5 : Int), 0 ≤ a → a < 2 * h → F + x5 = 11 → 0 ≤ x5 → Q (mt_lf α β e F a m) σ → f_X0_loopFrom_u8 Q (f_X0_loopFrom_u59 Q p2) p2 (F + 1) σ e m a x5 := by
    intro F
    induction F with
    | zero =>
      intro a m x5 a0 a1 hx h50 q
      unfold f_X0_loopFrom_u8
      exact ⟨fun _ => q, fun _ => ⟨fun _ => q, fun c => absurd c (by omega)⟩⟩
    | succ F ih =>
      intro a m x5 a0 a1 hx h50 q
      unfold f_X0_loopFrom_u8
      unfold mt_lf at q
      have g := ha a a0 a1
      have g2 := hb _ g.1 g.2.1
      refine ⟨fun c => ?_, fun c => ⟨fun d => absurd d (by omega), fun _ => ⟨a0, by omega, ?_⟩⟩⟩
      · rw [if_neg (show ¬ mb_t m e = 0 from c)] at q; exact q
      · rw [if_pos (show mb_t m e = 0 from c)] at q
        rw [ra a a0 a1]
        intro _ y4 e4
        subst e4
        refine ⟨g.1, by omega, ?_⟩
        rw [rb _ g.1 g.2.1]
        intro _ y6 e6 y7 e7
        subst e6; subst e7
        refine ⟨mt_i (by omega) (by omega), fun y8 e8 => ?_⟩
        subst e8
        exact ih _ _ _ g2.1 g2.2.1 (by omega) (by omega) q
  unfold f_X0_loopFrom f_X0_loopFrom_u0
  exact ⟨12, L 11 e 0 0 e0 e1 (by omega) (by omega) k⟩
theorem s_loopsBy {Q : Int → ml_St → Prop} {p h : Int} {σ : ml_St} {α β : Int → Int} (h2 : 2 ≤ h) (h5 : h ≤ 5) (ha : mt_M h α) (hb : mt_M h β) (ra : mt_eq h (σ (p + 1)) α) (rb : mt_eq h (σ 5) β) (k : Q (mt_cl h α β) σ) : f_X0_loopsBy σ p h Q := by
  have L : ∀ (N : Nat) (n : Nat), (n : Int) ≤ 2 * h → 2 * h - n < N → f_X0_loopsBy_u8 Q (f_X0_loopsBy_u47 Q p) p N σ h (mt_lbs α β n).2 (mt_lbs α β n).1 n := by
    intro N
    induction N with
    | zero => intro n n1 hN; omega
    | succ N ih =>
      intro n n1 hN
      obtain ⟨c1, c2, c3, c4⟩ := mt_lbs_C h5 ha hb n n1
      unfold f_X0_loopsBy_u8
      refine ⟨mt_i (by omega) (by omega), fun c => ?_, fun c => ⟨fun d => ?_, fun d => ?_⟩⟩
      · have : n = (2 * h).toNat := by omega
        subst this
        exact k
      · have e : mt_lbs α β (n + 1) = mt_lbs α β n := by
          conv => lhs; unfold mt_lbs
          exact if_neg d
        unfold f_X0_loopsBy_u41
        refine ⟨mt_i (by omega) (by omega), fun y1 e1 => ?_⟩
        subst e1
        rw [← e]
        exact ih (n + 1) (by omega) (by omega)
      · have e : mt_lbs α β (n + 1) = (b_or (mt_lbs α β n).1 (mt_lm α β n), (mt_lbs α β n).2 + 1) := by
          conv => lhs; unfold mt_lbs
          exact if_pos d
        refine s_loopFrom h5 ha hb (by omega) (by omega) ra rb ?_
        intro _ y5 e5
        refine ⟨mt_i (by omega) (by omega), fun y6 e6 => ?_⟩
        unfold f_X0_loopsBy_u41
        refine ⟨mt_i (by omega) (by omega), fun y1 e1 => ?_⟩
        subst e5; subst e6; subst e1
        have g := ih (n + 1) (by omega) (by omega)
        rw [e] at g
        exact g
  unfold f_X0_loopsBy f_X0_loopsBy_u0
  exact ⟨(2 * h).toNat + 1, L _ 0 (by omega) (by omega)⟩
/-- the model's closing: c -/
def mt_jv (h : Int) (τ : ml_St) (c : Int → Int) : Prop := ∀ e, 0 ≤ e → e < 2 * h → (τ 215 4 ≠ 0 → τ 217 e = c e) ∧ (τ 215 4 = 0 → c e = mt_str h e)
theorem s_closes {Q : Int → ml_St → Prop} {h x : Int} {τ : ml_St} {c : Int → Int} (h5 : h ≤ 5) (th : τ 215 2 = h) (x0 : 0 ≤ x) (x1 : x < 2 * h) (j : mt_jv h τ c) (k : Q (c x) τ) : f_X12_closes τ x Q := by
  obtain ⟨j1, j2⟩ := j x x0 x1
  unfold f_X12_closes f_X12_closes_u0
  refine fun _ => ⟨fun d => ?_, fun d => ⟨x0, by omega, fun _ => ?_⟩⟩
  · rw [th]
    have e := j2 d
    rw [(mt_str_e h5 x0 x1).1] at e
    refine fun _ => ⟨fun g _ => ⟨mt_i (by omega) (by omega), ?_⟩, fun g _ => ⟨mt_i (by omega) (by omega), ?_⟩⟩
    · unfold f_X12_closes_u39
      rw [if_neg (by omega)] at e
      rw [← e]; exact k
    · unfold f_X12_closes_u39
      rw [if_pos (by omega)] at e
      rw [← e]; exact k
  · unfold f_X12_closes_u39
    rw [j1 d]; exact k
theorem s_closing {Q : Int → ml_St → Prop} {m h : Int} {τ : ml_St} {α β : Int → Int} (h2 : 2 ≤ h) (h5 : h ≤ 5) (r : 0 ≤ m ∧ m < 64) (th : τ 215 2 = h) (ha : mt_M h α) (hb : mt_M h β) (ra : ∀ e, 0 ≤ e → e < 2 * h → τ 227 (10 * m + e) = α e) (rb : mt_jv h τ β) (k : ∀ τ', (∀ j, j ≠ 234 → τ' j = τ j) → Q (mt_cl h α β) τ') : f_X12_closing τ m Q := by
  -- clearing
  have C : ∀ (N : Nat) (n : Int) (σ : ml_St), 0 ≤ n → n ≤ 2 * h → 2 * h - n < N → (∀ j, j ≠ 234 → σ j = τ j) → (∀ j, 0 ≤ j → j < n → σ 234 j = 0) → (∀ σ, (∀ j, j ≠ 234 → σ j = τ j) → (∀ j, 0 ≤ j → j < 2 * h → σ 234 j = 0) → f_X12_closing_u27 Q σ m 0) → f_X12_closing_u4 Q (f_X12_closing_u27 Q) N σ m 0 n := by
    intro N
    induction N with
    | zero => intro n σ n0 n1 hN; omega
    | succ N ih =>
      intro n σ n0 n1 hN f hz kk
      unfold f_X12_closing_u4
      rw [f 215 (by omega), th]
      refine fun _ => ⟨mt_i (by omega) (by omega), fun c => ?_, fun c => ⟨n0, by omega, fun σ4 s4 => ⟨mt_i (by omega) (by omega), fun y5 e5 => ?_⟩⟩⟩
      · exact kk σ f (fun j j0 j1 => hz j j0 (by omega))
      · subst e5
        refine ih (n + 1) σ4 (by omega) (by omega) (by omega) (fun j hj => by rw [s4, ml_up_k hj, f j hj]) (fun j j0 j1 => ?_) kk
        rw [s4]
        by_cases q : j = n
        · rw [q, ml_up_same]
        · rw [ml_up_i q]; exact hz j j0 (by omega)
  -- the loops, one after another
  have L : ∀ (N : Nat) (n : Nat) (σ : ml_St), (n : Int) ≤ 2 * h → 2 * h - n < N → (∀ j, j ≠ 234 → σ j = τ j) → (∀ j, 0 ≤ j → j < 2 * h → σ 234 j = mb_t (mt_lbs α β n).1 j) → f_X12_closing_u29 Q (f_X12_closing_u114 Q) N σ m (mt_lbs α β n).2 n := by
    intro N
    induction N with
    | zero => intro n σ n1 hN; omega
    | succ N ih =>
      intro n σ n1 hN f hs
      obtain ⟨c1, c2, c3, c4⟩ := mt_lbs_C h5 ha hb n n1
      unfold f_X12_closing_u29
      rw [f 215 (by omega), th]
      refine fun _ => ⟨mt_i (by omega) (by omega), fun c => ?_, fun c => ⟨by omega, by omega, ?_⟩⟩
      · have : n = (2 * h).toNat := by omega
        subst this
        exact k σ f
      rw [hs n (by omega) (by omega)]
      refine fun _ => ⟨fun d => ⟨mt_i (by omega) (by omega), fun y6 e6 => ?_⟩, fun d => ?_⟩
      · subst e6
        have e : mt_lbs α β (n + 1) = (b_or (mt_lbs α β n).1 (mt_lm α β n), (mt_lbs α β n).2 + 1) := by
          conv => lhs; unfold mt_lbs
          exact if_pos d
        obtain ⟨p, p1, p2, p3, p4⟩ := mt_z_cyc (e := n) h5 ha hb (by omega) (by omega)
        obtain ⟨l1, l2⟩ := mt_lm_bit (e := n) h5 ha hb (by omega) (by omega) p1 p2 p3 p4
        obtain ⟨o1, o2⟩ := mb_or_m (k := 10) (by omega) c1 l1
        have zr := mt_z_r (e := n) ha hb (by omega) (by omega)
        -- every end of this loop is new
        have zn : ∀ i, mb_t (mt_lbs α β n).1 (mt_z α β n i) = 0 := by
          intro i
          induction i with
          | zero => exact d
          | succ i ih2 =>
            have g := c4 _ (zr i).1 (zr i).2 ih2
            rcases Nat.mod_two_eq_zero_or_one i with q | q
            · rw [mt_z_e q]; exact g.1
            · rw [mt_z_o q]; exact g.2
        have W : ∀ (M : Nat) (q : Nat) (σ : ml_St), q ≤ p → p - q < M → (∀ j, j ≠ 234 → σ j = τ j) → (∀ j, 0 ≤ j → j < 2 * h → (σ 234 j = 0 ∨ σ 234 j = 1) ∧ (σ 234 j = 1 ↔ mb_t (mt_lbs α β n).1 j = 1 ∨ ∃ i, i < 2 * q ∧ mt_z α β n i = j)) → f_X12_closing_u57 Q (f_X12_closing_u108 Q (f_X12_closing_u29 Q (f_X12_closing_u114 Q) N)) M σ m ((mt_lbs α β n).2 + 1) n (mt_z α β n (2 * q)) := by
          intro M
          induction M with
          | zero => intro q σ q1 hM; omega
          | succ M ihM =>
            intro q σ q1 hM f hs
            have zr2 := zr (2 * q)
            unfold f_X12_closing_u57
            refine ⟨zr2.1, by omega, fun _ => ⟨fun d1 => ?_, fun d1 => ?_⟩⟩
            · -- marked: the loop is closed
              have hqp : q = p := by
                rcases Nat.lt_or_ge q p with l | l
                · exfalso
                  obtain ⟨x1, x2⟩ := hs _ zr2.1 zr2.2
                  rcases x1 with x1 | x1
                  · exact d1 x1
                  · rcases x2.1 x1 with y | ⟨i, i1, i2⟩
                    · rw [zn] at y; omega
                    · exact p4 i (2 * q) i1 (by omega) i2
                · omega
              subst hqp
              unfold f_X12_closing_u108
              refine ⟨mt_i (by omega) (by omega), fun y1 e1 => ?_⟩
              subst e1
              have g := ih (n + 1) σ (by omega) (by omega) f (fun j j0 j1 => ?_)
              · rw [e] at g; exact g
              · rw [e]
                show σ 234 j = mb_t (b_or (mt_lbs α β n).1 (mt_lm α β n)) j
                obtain ⟨x1, x2⟩ := hs j j0 j1
                rw [o2 j j0 (by omega)]
                by_cases y : mb_t (mt_lbs α β n).1 j = 1 ∨ mb_t (mt_lm α β n) j = 1
                · rw [if_pos y]
                  exact x2.2 (y.elim Or.inl (fun y => Or.inr ((l2 j j0 j1).1 y)))
                · rw [if_neg y]
                  rcases x1 with x1 | x1
                  · exact x1
                  · exact absurd ((x2.1 x1).elim Or.inl (fun y => Or.inr ((l2 j j0 j1).2 y))) y
            · have hqp : q < p := by
                rcases Nat.lt_or_ge q p with l | l
                · exact l
                · exfalso
                  have : q = p := by omega
                  subst this
                  have := (hs _ zr2.1 zr2.2).2.2 (Or.inr ⟨0, by omega, by rw [p3]; rfl⟩)
                  omega
              refine ⟨zr2.1, by omega, fun σ3 s3 => ⟨mt_i (by omega) (by omega), mt_i (by omega) (by omega), by omega, by omega, ?_⟩⟩
              have v : σ3 227 (10 * m + mt_z α β n (2 * q)) = mt_z α β n (2 * q + 1) := by rw [s3, ml_up_k (by omega), f 227 (by omega), ra _ zr2.1 zr2.2, mt_z_e (by omega)]
              rw [v]
              intro _ y7 e7
              subst e7
              have zr3 := zr (2 * q + 1)
              refine ⟨zr3.1, by omega, fun σ8 s8 => ?_⟩
              have f8 : ∀ j, j ≠ 234 → σ8 j = τ j := fun j hj => by rw [s8, ml_up_k hj, s3, ml_up_k hj, f j hj]
              have z2 : β (mt_z α β n (2 * q + 1)) = mt_z α β n (2 * (q + 1)) := (mt_z_o (i := 2 * q + 1) (by omega)).symm
              refine s_closes h5 (by rw [f8 215 (by omega), th]) zr3.1 zr3.2 (c := β) (fun e e0 e1 => by rw [f8 215 (by omega), f8 217 (by omega)]; exact rb e e0 e1) ?_
              intro _
              rw [z2]
              refine ihM (q + 1) σ8 (by omega) (by omega) f8 (fun j j0 j1 => ?_)
              obtain ⟨x1, x2⟩ := hs j j0 j1
              rw [s8, s3]
              by_cases y1 : j = mt_z α β n (2 * q + 1)
              · rw [y1, ml_up_same]
                exact ⟨Or.inr rfl, fun _ => Or.inr ⟨2 * q + 1, by omega, rfl⟩, fun _ => rfl⟩
              · rw [ml_up_i y1]
                by_cases y2 : j = mt_z α β n (2 * q)
                · rw [y2, ml_up_same]
                  exact ⟨Or.inr rfl, fun _ => Or.inr ⟨2 * q, by omega, rfl⟩, fun _ => rfl⟩
                · rw [ml_up_i y2]
                  refine ⟨x1, fun c => ?_, fun c => x2.2 ?_⟩
                  · rcases x2.1 c with c | ⟨i, i1, i2⟩
                    · exact Or.inl c
                    · exact Or.inr ⟨i, by omega, i2⟩
                  · rcases c with c | ⟨i, i1, i2⟩
                    · exact Or.inl c
                    · have n1 : i ≠ 2 * q + 1 := fun c => y1 (by rw [← i2, c])
                      have n2 : i ≠ 2 * q := fun c => y2 (by rw [← i2, c])
                      exact Or.inr ⟨i, by omega, i2⟩
        refine ⟨p + 1, W (p + 1) 0 σ (by omega) (by omega) f (fun j j0 j1 => ?_)⟩
        rw [hs j j0 j1]
        exact ⟨mb_t_01 _ _, fun c => Or.inl c, fun c => c.elim id (fun ⟨i, i1, _⟩ => absurd i1 (by omega))⟩
      · have e : mt_lbs α β (n + 1) = mt_lbs α β n := by
          conv => lhs; unfold mt_lbs
          exact if_neg d
        unfold f_X12_closing_u108
        refine ⟨mt_i (by omega) (by omega), fun y1 e1 => ?_⟩
        subst e1
        rw [← e]
        exact ih (n + 1) σ (by omega) (by omega) f (by rw [e]; exact hs)
  unfold f_X12_closing f_X12_closing_u0
  refine ⟨(2 * h).toNat + 1, C _ 0 τ (by omega) (by omega) (by omega) (fun _ _ => rfl) (fun j j0 j1 => absurd j1 (by omega)) (fun σ f hz => ?_)⟩
  unfold f_X12_closing_u27
  refine ⟨(2 * h).toNat + 1, L _ 0 σ (by omega) (by omega) f (fun j j0 j1 => ?_)⟩
  rw [hz j j0 j1]
  exact (mb_0 j).symm
/-! COUNTS of bits, the number of a matching -/
def mb_pc : Nat → Nat → Nat
  | 0, _ => 0
  | k + 1, n => n % 2 + mb_pc k (n / 2)
theorem mb_u {a : Nat} (h : a < 2147483648) : (Int32.ofInt (a : Int)).toUInt32.toNat = a := by
  show (Int32.ofInt (a : Int)).toBitVec.toNat = a
  exact mb_n h
theorem mb_ushr {a r : Nat} (ha : a < 2147483648) (hr : r < 32) : b_ushr (a : Int) (r : Int) = ((a >>> r : Nat) : Int) := by
  have e31 : (Int32.ofInt (r : Int)).toUInt32 &&& Int32.toUInt32 31 = (Int32.ofInt (r : Int)).toUInt32 := by
    apply UInt32.toNat_inj.1
    rw [UInt32.toNat_and, mb_u (by omega)]
    show r &&& 31 = r
    exact Nat.and_two_pow_sub_one_of_lt_two_pow (n := 5) hr
  have e : ((Int32.ofInt (a : Int)).toUInt32 >>> (Int32.ofInt (r : Int)).toUInt32).toNat = a >>> r := by
    rw [UInt32.toNat_shiftRight, mb_u ha, mb_u (by omega), Nat.mod_eq_of_lt hr]
  unfold b_ushr
  rw [e31]
  have e2 : ((Int32.ofInt (a : Int)).toUInt32 >>> (Int32.ofInt (r : Int)).toUInt32).toInt32.toBitVec.toNat = a >>> r := e
  rw [mb_i, e2]
  rw [e2]
  exact Nat.lt_of_le_of_lt (Nat.shiftRight_le a r) ha
def mb_fc (n : Nat) (k : Nat → Bool) : Bool := match n with
  | 0 => k 0
  | m + 1 => k (m + 1)
theorem mb_fc_e (n : Nat) (k : Nat → Bool) : mb_fc n k = k n := by cases n <;> rfl
def mb_b2 (n : Nat) : Nat := n - ((n >>> 1) &&& 1431655765)
def mb_b4 (y2 : Nat) : Nat := (y2 &&& 858993459) + ((y2 >>> 2) &&& 858993459)
def mb_b6 (y4 : Nat) : Nat := (y4 + (y4 >>> 4)) &&& 252645135
def mb_b8 (y6 : Nat) : Nat := y6 + (y6 >>> 8)
def mb_b10 (y8 : Nat) : Nat := y8 + (y8 >>> 16)
def mb_pcf : Nat → Nat → Nat → Nat → Bool
  | 0, _, acc, r => Nat.beq acc r
  | k + 1, n, acc, r => mb_fc (acc + n % 2) fun a => mb_fc (n / 2) fun n => mb_pcf k n a r
def mb_chk (n : Nat) : Bool := mb_fc n fun n => mb_fc (mb_b2 n) fun y2 => mb_fc (mb_b4 y2) fun y4 => mb_fc (mb_b6 y4) fun y6 => mb_fc (mb_b8 y6) fun y8 => mb_fc (mb_b10 y8 &&& 63) fun y10 => mb_pcf 16 n 0 y10
def mb_all (f : Nat → Bool) : Nat → Bool
  | 0 => true
  | n + 1 => match f n with
    | true => mb_all f n
    | false => false
theorem mb_all_e {f : Nat → Bool} : ∀ n, mb_all f n = true → ∀ a, a < n → f a = true := by
  intro n
  induction n with
  | zero => intro _ a ha; omega
  | succ n ih =>
    intro h a ha
    unfold mb_all at h
    split at h
    · rename_i q
      by_cases z : a = n
      · subst z; exact q
      · exact ih h a (by omega)
    · exact absurd h (by decide)
theorem mb_pcf_e : ∀ (k n acc r : Nat), mb_pcf k n acc r = true → r = acc + mb_pc k n := by
  intro k
  induction k with
  | zero => intro n acc r h; unfold mb_pcf at h; unfold mb_pc; have := Nat.eq_of_beq_eq_true h; omega
  | succ k ih =>
    intro n acc r h
    unfold mb_pcf at h
    rw [mb_fc_e, mb_fc_e] at h
    have := ih _ _ _ h
    unfold mb_pc
    omega
def mb_sw (n : Nat) : Nat := mb_b10 (mb_b8 (mb_b6 (mb_b4 (mb_b2 n)))) &&& 63
theorem mb_sw_1 : mb_all mb_chk 1024 = true := by decide +kernel
theorem mb_sw_pc {n : Nat} (h : n < 1024) : mb_sw n = mb_pc 16 n := by
  have g := mb_all_e 1024 mb_sw_1 n h
  unfold mb_chk at g
  rw [mb_fc_e, mb_fc_e, mb_fc_e, mb_fc_e, mb_fc_e, mb_fc_e] at g
  have := mb_pcf_e 16 n 0 _ g
  unfold mb_sw
  omega
theorem mb_c {a b : Nat} (h : b ≤ a) : (a : Int) - (b : Int) = ((a - b : Nat) : Int) := by omega
theorem s_bitCount {Q : Int → ml_St → Prop} {σ : ml_St} {n : Nat} (h : n < 1073741824) (k : Q (mb_sw n : Int) σ) : f_J6_bitCount_0f7a4 σ (n : Int) Q := by
  have k : Q (((mb_b10 (mb_b8 (mb_b6 (mb_b4 (mb_b2 n)))) &&& 63 : Nat)) : Int) σ := k
  have ni : ∀ x : Nat, x < 2147483648 → I32 (x : Int) := fun x _ => ⟨by omega, by omega⟩
  have u : ∀ a : Nat, a < 2147483648 → ∀ r : Nat, r < 32 → b_ushr (a : Int) (r : Int) = ((a >>> r : Nat) : Int) := fun a ha r hr => mb_ushr ha hr
  have an : ∀ a b : Nat, a < 2147483648 → b < 2147483648 → b_and (a : Int) (b : Int) = ((a &&& b : Nat) : Int) := fun a b ha hb => mb_and ha hb
  have s1 := Nat.shiftRight_le n 1
  have l1 : n >>> 1 &&& 1431655765 ≤ n >>> 1 := Nat.and_le_left
  have e2 : (n : Int) - (b_and (b_ushr n 1) 1431655765) = (mb_b2 n : Int) := by
    have := u n (by omega) 1 (by omega)
    rw [show ((1 : Nat) : Int) = 1 from rfl] at this
    rw [this]
    have := an (n >>> 1) 1431655765 (by omega) (by omega)
    rw [show ((1431655765 : Nat) : Int) = 1431655765 from rfl] at this
    rw [this, mb_c (by omega)]
    rfl
  have b2 : mb_b2 n < 1073741824 := by unfold mb_b2; omega
  have s2 := Nat.shiftRight_le (mb_b2 n) 2
  have l2 : mb_b2 n >>> 2 &&& 858993459 ≤ 858993459 := Nat.and_le_right
  have l2' : mb_b2 n &&& 858993459 ≤ 858993459 := Nat.and_le_right
  have e4 : (b_and (mb_b2 n) 858993459) + (b_and (b_ushr (mb_b2 n) 2) 858993459) = (mb_b4 (mb_b2 n) : Int) := by
    have h1 := an (mb_b2 n) 858993459 (by omega) (by omega)
    have h2 := u (mb_b2 n) (by omega) 2 (by omega)
    have h3 := an (mb_b2 n >>> 2) 858993459 (by omega) (by omega)
    rw [show ((858993459 : Nat) : Int) = 858993459 from rfl] at h1 h3
    rw [show ((2 : Nat) : Int) = 2 from rfl] at h2
    rw [h1, h2, h3]
    rfl
  have b4 : mb_b4 (mb_b2 n) ≤ 1717986918 := by unfold mb_b4; omega
  have b4' : mb_b4 (mb_b2 n) ≤ 1717986918 ∧ mb_b4 (mb_b2 n) >>> 4 ≤ 107374182 := by
    refine ⟨b4, ?_⟩
    rw [Nat.shiftRight_eq_div_pow]
    omega
  have e6 : (mb_b4 (mb_b2 n) : Int) + b_ushr (mb_b4 (mb_b2 n)) 4 = ((mb_b4 (mb_b2 n) + mb_b4 (mb_b2 n) >>> 4 : Nat) : Int) := by
    have h2 := u (mb_b4 (mb_b2 n)) (by omega) 4 (by omega)
    rw [show ((4 : Nat) : Int) = 4 from rfl] at h2
    rw [h2]; rfl
  have e6' : b_and ((mb_b4 (mb_b2 n) + mb_b4 (mb_b2 n) >>> 4 : Nat) : Int) 252645135 = (mb_b6 (mb_b4 (mb_b2 n)) : Int) := by
    have h2 := an (mb_b4 (mb_b2 n) + mb_b4 (mb_b2 n) >>> 4) 252645135 (by omega) (by omega)
    rw [show ((252645135 : Nat) : Int) = 252645135 from rfl] at h2
    rw [h2]; rfl
  generalize mb_b4 (mb_b2 n) = y4 at *
  have b6 : mb_b6 y4 ≤ 252645135 := Nat.and_le_right
  have s6 := Nat.shiftRight_le (mb_b6 y4) 8
  have e8 : (mb_b6 y4 : Int) + b_ushr (mb_b6 y4) 8 = (mb_b8 (mb_b6 y4) : Int) := by
    have h2 := u (mb_b6 y4) (by omega) 8 (by omega)
    rw [show ((8 : Nat) : Int) = 8 from rfl] at h2
    rw [h2]; rfl
  have b8 : mb_b8 (mb_b6 y4) ≤ 505290270 := by unfold mb_b8; omega
  have s8 := Nat.shiftRight_le (mb_b8 (mb_b6 y4)) 16
  have e10 : (mb_b8 (mb_b6 y4) : Int) + b_ushr (mb_b8 (mb_b6 y4)) 16 = (mb_b10 (mb_b8 (mb_b6 y4)) : Int) := by
    have h2 := u (mb_b8 (mb_b6 y4)) (by omega) 16 (by omega)
    rw [show ((16 : Nat) : Int) = 16 from rfl] at h2
    rw [h2]; rfl
  have b10 : mb_b10 (mb_b8 (mb_b6 y4)) ≤ 1010580540 := by unfold mb_b10; omega
  have e11 : b_and (mb_b10 (mb_b8 (mb_b6 y4)) : Int) 63 = ((mb_b10 (mb_b8 (mb_b6 y4)) &&& 63 : Nat) : Int) := an _ 63 (by omega) (by omega)
  unfold f_J6_bitCount_0f7a4 f_J6_bitCount_0f7a4_u0
  rw [e2]
  refine ⟨ni _ (by omega), fun y2 g2 => ?_⟩
  subst g2
  rw [e4]
  refine ⟨ni _ (by omega), fun z4 g4 => ?_⟩
  subst g4
  rw [e6]
  refine ⟨ni _ (by omega), fun z6 g6 => ?_⟩
  rw [e6'] at g6
  subst g6
  rw [e8]
  refine ⟨ni _ (by omega), fun z8 g8 => ?_⟩
  subst g8
  rw [e10]
  refine ⟨ni _ (by omega), fun z10 g10 => ?_⟩
  subst g10
  rw [e11]
  exact k
/-! the number of a matching: below 945, and no two have the same -/
def mb_bt (o e p : Nat) : Nat := o &&& (2 ^ p - 2 ^ (e + 1))
def mb_rm (o e p : Nat) : Nat := o ^^^ (o &&& (2 ^ e ||| 2 ^ p))
def mb_k1 (o e : Nat) : Bool := mb_fc (mb_pc 10 o) fun c => (mb_pc 10 (mb_bt o e (e + 1)) == 0) && (mb_pc 10 (mb_bt o e 10) + 1 == c) && mb_all (fun p => if p ≤ e then true else mb_fc (mb_pc 10 (mb_bt o e p)) fun d => (if o.testBit p then (mb_pc 10 (mb_bt o e (p + 1)) == d + 1) && (mb_pc 10 (mb_rm o e p) + 2 == c) else mb_pc 10 (mb_bt o e (p + 1)) == d)) 10
def mb_k2 (o : Nat) : Bool := mb_all (fun e => if o % 2 ^ e = 0 then (if o.testBit e then mb_k1 o e else true) else true) 10
theorem mb_k2_e : mb_all mb_k2 1024 = true := by decide +kernel
theorem mb_pc_10 : mb_all (fun o => mb_pc 16 o == mb_pc 10 o) 1024 = true := by decide +kernel
theorem mb_k {o e : Nat} (ho : o < 1024) (he : e < 10) (hl : o % 2 ^ e = 0) (hb : o.testBit e = true) : mb_pc 10 (mb_bt o e (e + 1)) = 0 ∧ mb_pc 10 (mb_bt o e 10) + 1 = mb_pc 10 o ∧ ∀ p, e < p → p < 10 → mb_pc 10 (mb_bt o e (p + 1)) = mb_pc 10 (mb_bt o e p) + (if o.testBit p then 1 else 0) ∧ (o.testBit p = true → mb_pc 10 (mb_rm o e p) + 2 = mb_pc 10 o) := by
  have g := mb_all_e 1024 mb_k2_e o ho
  unfold mb_k2 at g
  have g := mb_all_e 10 g e he
  have g : (if o % 2 ^ e = 0 then (if o.testBit e then mb_k1 o e else true) else true) = true := g
  rw [if_pos hl, if_pos hb] at g
  unfold mb_k1 at g
  rw [mb_fc_e] at g
  simp only [Bool.and_eq_true, beq_iff_eq] at g
  obtain ⟨⟨g1, g2⟩, g3⟩ := g
  refine ⟨g1, g2, fun p p1 p2 => ?_⟩
  have g4 := mb_all_e 10 g3 p p2
  rw [if_neg (by omega), mb_fc_e] at g4
  by_cases q : o.testBit p = true
  · rw [if_pos q] at g4
    simp only [Bool.and_eq_true, beq_iff_eq] at g4
    rw [if_pos q]
    exact ⟨g4.1, fun _ => g4.2⟩
  · rw [if_neg q] at g4
    rw [if_neg q]
    simp only [beq_iff_eq] at g4
    exact ⟨g4, fun c => absurd c q⟩
theorem mb_d_mono {o e : Nat} (ho : o < 1024) (he : e < 10) (hl : o % 2 ^ e = 0) (hb : o.testBit e = true) : ∀ (d p : Nat), e < p → p + d ≤ 10 → mb_pc 10 (mb_bt o e p) ≤ mb_pc 10 (mb_bt o e (p + d)) := by
  intro d
  induction d with
  | zero => intro p _ _; exact Nat.le_refl _
  | succ d ih =>
    intro p p1 p2
    have h1 := ih p p1 (by omega)
    have h2 := ((mb_k ho he hl hb).2.2 (p + d) (by omega) (by omega)).1
    rw [show p + (d + 1) = p + d + 1 by omega]
    omega
theorem mb_d_lt {o e p p' : Nat} (ho : o < 1024) (he : e < 10) (hl : o % 2 ^ e = 0) (hb : o.testBit e = true) (p1 : e < p) (p2 : p < p') (p3 : p' ≤ 10) (hp : o.testBit p = true) : mb_pc 10 (mb_bt o e p) < mb_pc 10 (mb_bt o e p') := by
  have h1 := mb_d_mono ho he hl hb (p' - (p + 1)) (p + 1) (by omega) (by omega)
  have h2 := ((mb_k ho he hl hb).2.2 p p1 (by omega)).1
  rw [if_pos hp] at h2
  rw [show p + 1 + (p' - (p + 1)) = p' by omega] at h1
  omega
def mt_nm (f : Int → Int) : Nat → Nat → Nat → Nat → Nat
  | 0, _, _, s => s
  | k + 1, e, o, s => if o.testBit e then mt_nm f k (e + 1) (mb_rm o e (f e).toNat) (s * (mb_pc 10 o - 1) + mb_pc 10 (mb_bt o e (f e).toNat)) else mt_nm f k (e + 1) o s
def mt_num (h : Int) (f : Int → Int) : Nat := mt_nm f (2 * h).toNat 0 (2 ^ (2 * h).toNat - 1) 0
def mb_R : Nat → Nat
  | 0 => 1
  | 1 => 1
  | k + 2 => (k + 1) * mb_R k
/-- what is open before e -/
def mt_op (h : Int) (f : Int → Int) (e o : Nat) : Prop := o < 1024 ∧ o % 2 ^ e = 0 ∧ ∀ j : Nat, j < 10 → (o.testBit j = true ↔ e ≤ j ∧ (j : Int) < 2 * h ∧ (e : Int) ≤ f j)
theorem mt_op_s {h : Int} {f : Int → Int} (h5 : h ≤ 5) (hf : mt_M h f) {e o : Nat} (e1 : (e : Int) < 2 * h) (p : mt_op h f e o) (q : o.testBit e = false) : mt_op h f (e + 1) o := by
  obtain ⟨o1, o2, o3⟩ := p
  have z : ¬ (e ≤ e ∧ (e : Int) < 2 * h ∧ (e : Int) ≤ f e) := fun c => by have := (o3 e (by omega)).2 c; rw [q] at this; exact absurd this (by decide)
  have fe : f e < e := by
    rcases Int.lt_or_le (f e) e with c | c
    · exact c
    · exact absurd ⟨Nat.le_refl e, e1, c⟩ z
  refine ⟨o1, ?_, fun j j1 => ?_⟩
  · have : o % 2 ^ (e + 1) = 0 := by
      rw [Nat.testBit, Nat.shiftRight_eq_div_pow] at q
      have hd := Nat.div_add_mod o (2 ^ e)
      have e2 : o / 2 ^ e % 2 = 0 := by
        have : 1 &&& (o / 2 ^ e) = (o / 2 ^ e) % 2 := by rw [Nat.and_comm, Nat.and_one_is_mod]
        rw [this] at q
        have h01 := Nat.mod_two_eq_zero_or_one (o / 2 ^ e)
        rcases h01 with c | c
        · exact c
        · rw [c] at q; exact absurd q (by decide)
      obtain ⟨t, ht⟩ : ∃ t, o / 2 ^ e = 2 * t := ⟨o / 2 ^ e / 2, by omega⟩
      rw [o2, ht] at hd
      have : o = 2 ^ (e + 1) * t := by rw [Nat.pow_succ, Nat.mul_assoc]; omega
      rw [this]; exact Nat.mul_mod_right _ _
    exact this
  · rw [o3 j j1]
    constructor
    · rintro ⟨c1, c2, c3⟩
      have ne : j ≠ e := fun c => by subst c; omega
      refine ⟨by omega, c2, ?_⟩
      have g := hf j (by omega) c2
      have ne2 : f j ≠ e := fun c => by
        have := g.2.2.1
        rw [c] at this
        omega
      omega
    · rintro ⟨c1, c2, c3⟩
      exact ⟨by omega, c2, by omega⟩
theorem mb_rm_bit {o e p j : Nat} : (mb_rm o e p).testBit j = (o.testBit j && !(decide (e = j) || decide (p = j))) := by
  unfold mb_rm
  rw [Nat.testBit_xor, Nat.testBit_and, Nat.testBit_or, Nat.testBit_two_pow, Nat.testBit_two_pow]
  cases o.testBit j <;> cases decide (e = j) <;> cases decide (p = j) <;> rfl
theorem mb_rm_le {o e p : Nat} (k : Nat) (h : o < 2 ^ k) : mb_rm o e p < 2 ^ k := by
  apply Nat.lt_pow_two_of_testBit
  intro i hi
  rw [mb_rm_bit, Nat.testBit_lt_two_pow (Nat.lt_of_lt_of_le h (Nat.pow_le_pow_right (by omega) hi))]
  rfl
theorem mb_low {o e : Nat} : o % 2 ^ e = 0 ↔ ∀ j, j < e → o.testBit j = false := by
  constructor
  · intro h j hj
    have := Nat.testBit_mod_two_pow o e j
    rw [h] at this
    simp [hj] at this
    exact this
  · intro h
    apply Nat.eq_of_testBit_eq
    intro j
    rw [Nat.testBit_mod_two_pow]
    by_cases q : j < e
    · simp [h j q]
    · simp [q]
theorem mt_op_p {h : Int} {f : Int → Int} (h5 : h ≤ 5) (hf : mt_M h f) {e o : Nat} (p : mt_op h f e o) (q : o.testBit e = true) (e10 : e < 10) : (e : Int) < f e ∧ f e < 2 * h ∧ o.testBit (f e).toNat = true ∧ mt_op h f (e + 1) (mb_rm o e (f e).toNat) := by
  obtain ⟨o1, o2, o3⟩ := p
  obtain ⟨c1, c2, c3⟩ := (o3 e e10).1 q
  obtain ⟨g1, g2, g3, g4⟩ := hf e (by omega) c2
  have fe : ((f e).toNat : Int) = f e := by omega
  refine ⟨by omega, g2, ?_, mb_rm_le 10 o1, ?_, fun j j1 => ?_⟩
  · refine (o3 _ (by omega)).2 ⟨by omega, by omega, ?_⟩
    rw [fe, g3]; omega
  · rw [mb_low]
    intro j hj
    rw [mb_rm_bit]
    by_cases z : e = j
    · subst z; simp
    · rw [mb_low.1 o2 j (by omega)]; rfl
  · rw [mb_rm_bit]
    constructor
    · intro c
      simp only [Bool.and_eq_true, Bool.not_eq_true', Bool.or_eq_false_iff, decide_eq_false_iff_not] at c
      obtain ⟨d1, d2, d3⟩ := c
      obtain ⟨x1, x2, x3⟩ := (o3 j j1).1 d1
      have g := hf j (by omega) x2
      refine ⟨by omega, x2, ?_⟩
      have : f j ≠ e := fun c => by
        have := g.2.2.1
        rw [c] at this
        omega
      omega
    · rintro ⟨x1, x2, x3⟩
      have d1 := (o3 j j1).2 ⟨by omega, x2, by omega⟩
      have g := hf j (by omega) x2
      have ne : (f e).toNat ≠ j := fun c => by
        have : f e = j := by omega
        rw [← this, g3] at x3
        omega
      simp only [Bool.and_eq_true, Bool.not_eq_true', Bool.or_eq_false_iff, decide_eq_false_iff_not]
      exact ⟨d1, by omega, ne⟩
theorem mt_nm_B {h : Int} {f : Int → Int} (h5 : h ≤ 5) (hf : mt_M h f) : ∀ (k e o s : Nat), (e : Int) + k = 2 * h → mt_op h f e o → s * mb_R (mb_pc 10 o) ≤ mt_nm f k e o s ∧ mt_nm f k e o s < (s + 1) * mb_R (mb_pc 10 o) := by
  intro k
  induction k with
  | zero =>
    intro e o s he p
    have : o = 0 := by
      apply Nat.eq_of_testBit_eq
      intro j
      rw [Nat.zero_testBit]
      by_cases q : j < 10
      · rcases hq : o.testBit j with _ | _
        · rfl
        · have := (p.2.2 j q).1 hq; omega
      · exact Nat.testBit_lt_two_pow (Nat.lt_of_lt_of_le p.1 (Nat.pow_le_pow_right (n := 2) (i := 10) (by omega) (by omega)))
    subst this
    unfold mt_nm
    show s * 1 ≤ s ∧ s < (s + 1) * 1
    omega
  | succ k ih =>
    intro e o s he p
    unfold mt_nm
    by_cases q : o.testBit e = true
    · rw [if_pos q]
      obtain ⟨g1, g2, g3, g4⟩ := mt_op_p h5 hf p q (by omega)
      obtain ⟨k1, k2, k3⟩ := mb_k p.1 (by omega) p.2.1 q
      obtain ⟨k4, k5⟩ := k3 (f e).toNat (by omega) (by omega)
      have k5 := k5 g3
      rw [if_pos g3] at k4
      have m := mb_d_mono p.1 (by omega) p.2.1 q (10 - ((f e).toNat + 1)) ((f e).toNat + 1) (by omega) (by omega)
      rw [show (f e).toNat + 1 + (10 - ((f e).toNat + 1)) = 10 by omega] at m
      obtain ⟨i1, i2⟩ := ih (e + 1) (mb_rm o e (f e).toNat) (s * (mb_pc 10 o - 1) + mb_pc 10 (mb_bt o e (f e).toNat)) (by omega) g4
      generalize mb_pc 10 (mb_bt o e (f e).toNat) = d at *
      generalize hc : mb_pc 10 (mb_rm o e (f e).toNat) = c at *
      have hR : mb_R (mb_pc 10 o) = (c + 1) * mb_R c := by rw [← k5]; rfl
      rw [hR]
      have e1 : mb_pc 10 o - 1 = c + 1 := by omega
      rw [e1] at i1 i2 ⊢
      have a1 : s * ((c + 1) * mb_R c) = s * (c + 1) * mb_R c := (Nat.mul_assoc _ _ _).symm
      have a2 : (s + 1) * ((c + 1) * mb_R c) = (s + 1) * (c + 1) * mb_R c := (Nat.mul_assoc _ _ _).symm
      rw [a1, a2]
      refine ⟨Nat.le_trans (Nat.mul_le_mul_right _ (by omega)) i1, Nat.lt_of_lt_of_le i2 (Nat.mul_le_mul_right _ ?_)⟩
      rw [Nat.add_mul]
      omega
    · rw [if_neg q]
      exact ih (e + 1) o s (by omega) (mt_op_s h5 hf (by omega) p (by simpa using q))
theorem mt_div {a b R r : Nat} (h1 : a * R ≤ r) (h2 : r < (a + 1) * R) (h3 : b * R ≤ r) (h4 : r < (b + 1) * R) : a = b := by
  rcases Nat.lt_trichotomy a b with q | q | q
  · have := Nat.mul_le_mul_right R (show a + 1 ≤ b from q); omega
  · exact q
  · have := Nat.mul_le_mul_right R (show b + 1 ≤ a from q); omega
theorem mt_nm_I {h : Int} {f g : Int → Int} (h5 : h ≤ 5) (hf : mt_M h f) (hg : mt_M h g) : ∀ (k e o s t : Nat), (e : Int) + k = 2 * h → mt_op h f e o → mt_op h g e o → mt_nm f k e o s = mt_nm g k e o t → s = t ∧ ∀ j : Nat, j < 10 → o.testBit j = true → f j = g j := by
  intro k
  induction k with
  | zero =>
    intro e o s t he p p' q
    refine ⟨q, fun j j1 c => ?_⟩
    have := (p.2.2 j j1).1 c
    omega
  | succ k ih =>
    intro e o s t he p p' r
    unfold mt_nm at r
    by_cases q : o.testBit e = true
    · rw [if_pos q, if_pos q] at r
      obtain ⟨g1, g2, g3, g4⟩ := mt_op_p h5 hf p q (by omega)
      obtain ⟨g1', g2', g3', g4'⟩ := mt_op_p h5 hg p' q (by omega)
      obtain ⟨k1, k2, k3⟩ := mb_k p.1 (by omega) p.2.1 q
      have k5 := (k3 (f e).toNat (by omega) (by omega)).2 g3
      have k5' := (k3 (g e).toNat (by omega) (by omega)).2 g3'
      have k4 := (k3 (f e).toNat (by omega) (by omega)).1
      have k4' := (k3 (g e).toNat (by omega) (by omega)).1
      rw [if_pos g3] at k4
      rw [if_pos g3'] at k4'
      have m := mb_d_mono p.1 (by omega) p.2.1 q (10 - ((f e).toNat + 1)) ((f e).toNat + 1) (by omega) (by omega)
      have m' := mb_d_mono p.1 (by omega) p.2.1 q (10 - ((g e).toNat + 1)) ((g e).toNat + 1) (by omega) (by omega)
      rw [show (f e).toNat + 1 + (10 - ((f e).toNat + 1)) = 10 by omega] at m
      rw [show (g e).toNat + 1 + (10 - ((g e).toNat + 1)) = 10 by omega] at m'
      obtain ⟨i1, i2⟩ := mt_nm_B h5 hf k (e + 1) _ (s * (mb_pc 10 o - 1) + mb_pc 10 (mb_bt o e (f e).toNat)) (by omega) g4
      obtain ⟨i1', i2'⟩ := mt_nm_B h5 hg k (e + 1) _ (t * (mb_pc 10 o - 1) + mb_pc 10 (mb_bt o e (g e).toNat)) (by omega) g4'
      rw [← r, show mb_pc 10 (mb_rm o e (g e).toNat) = mb_pc 10 (mb_rm o e (f e).toNat) by omega] at i1' i2'
      have es := mt_div i1 i2 i1' i2'
      have key : s = t ∧ mb_pc 10 (mb_bt o e (f e).toNat) = mb_pc 10 (mb_bt o e (g e).toNat) := by
        have d1 : mb_pc 10 (mb_bt o e (f e).toNat) < mb_pc 10 o - 1 := by omega
        have d2 : mb_pc 10 (mb_bt o e (g e).toNat) < mb_pc 10 o - 1 := by omega
        generalize mb_pc 10 (mb_bt o e (f e).toNat) = d at *
        generalize mb_pc 10 (mb_bt o e (g e).toNat) = d' at *
        have est : s = t := mt_div (r := s * (mb_pc 10 o - 1) + d) (R := mb_pc 10 o - 1) (by omega) (by rw [Nat.add_mul]; omega) (by omega) (by rw [Nat.add_mul]; omega)
        subst est
        exact ⟨rfl, by omega⟩
      obtain ⟨est, ed⟩ := key
      have efg : (f e).toNat = (g e).toNat := by
        rcases Nat.lt_trichotomy (f e).toNat (g e).toNat with c | c | c
        · have := mb_d_lt p.1 (by omega) p.2.1 q (by omega) c (by omega) g3; omega
        · exact c
        · have := mb_d_lt p.1 (by omega) p.2.1 q (by omega) c (by omega) g3'; omega
      have efg2 : f e = g e := by omega
      rw [← efg] at r g4'
      obtain ⟨-, j2⟩ := ih (e + 1) _ _ _ (by omega) g4 g4' r
      refine ⟨est, fun j j1 c => ?_⟩
      by_cases c1 : j = e
      · rw [c1]; exact efg2
      · by_cases c2 : (f e).toNat = j
        · have x1 := (hf e (by omega) (by omega)).2.2.1
          have x2 := (hg e (by omega) (by omega)).2.2.1
          have y : (j : Int) = f e := by omega
          rw [y, x1, efg2, x2]
        · refine j2 j j1 ?_
          rw [mb_rm_bit, c]
          simp [Ne.symm c1, c2]
    · rw [if_neg q, if_neg q] at r
      have q : o.testBit e = false := by simpa using q
      exact ih (e + 1) o s t (by omega) (mt_op_s h5 hf (by omega) p q) (mt_op_s h5 hg (by omega) p' q) r
theorem mt_op_0 {h : Int} {f : Int → Int} (h2 : 0 ≤ h) (h5 : h ≤ 5) (hf : mt_M h f) : mt_op h f 0 (2 ^ (2 * h).toNat - 1) := by
  have l : 2 ^ (2 * h).toNat ≤ 2 ^ 10 := Nat.pow_le_pow_right (by omega) (by omega)
  have l2 : 0 < 2 ^ (2 * h).toNat := Nat.two_pow_pos _
  refine ⟨by omega, by rw [Nat.pow_zero]; exact Nat.mod_one _, fun j j1 => ?_⟩
  rw [Nat.testBit_two_pow_sub_one]
  constructor
  · intro c
    have c : j < (2 * h).toNat := by simpa using c
    have g := hf j (by omega) (by omega)
    exact ⟨by omega, by omega, by omega⟩
  · rintro ⟨c1, c2, c3⟩
    simp; omega
theorem mt_num_lt {h : Int} {f : Int → Int} (h2 : 2 ≤ h) (h5 : h ≤ 5) (hf : mt_M h f) : mt_num h f < 945 := by
  have g := (mt_nm_B h5 hf (2 * h).toNat 0 _ 0 (by omega) (mt_op_0 (by omega) h5 hf)).2
  have e : (2 * h).toNat = 4 ∨ (2 * h).toNat = 6 ∨ (2 * h).toNat = 8 ∨ (2 * h).toNat = 10 := by omega
  unfold mt_num
  refine Nat.lt_of_lt_of_le g ?_
  rcases e with e | e | e | e <;> rw [e] <;> decide
theorem mt_num_inj {h : Int} {f g : Int → Int} (h2 : 2 ≤ h) (h5 : h ≤ 5) (hf : mt_M h f) (hg : mt_M h g) (q : mt_num h f = mt_num h g) : mt_eq h f g := by
  intro e e0 e1
  have r := (mt_nm_I h5 hf hg (2 * h).toNat 0 _ 0 0 (by omega) (mt_op_0 (by omega) h5 hf) (mt_op_0 (by omega) h5 hg) q).2 e.toNat (by omega) (by
    rw [Nat.testBit_two_pow_sub_one]; simp; omega)
  rw [show ((e.toNat : Nat) : Int) = e by omega] at r
  exact r
/-! number, codeOf, isAlike, areAlike -/
theorem mb_R_pos : ∀ n, 1 ≤ mb_R n
  | 0 => Nat.le_refl 1
  | 1 => Nat.le_refl 1
  | n + 2 => by
    have := mb_R_pos n
    show 1 ≤ (n + 1) * mb_R n
    exact Nat.le_trans (by omega) (Nat.mul_le_mul (show 1 ≤ n + 1 by omega) this)
theorem mb_pc10 {o : Nat} (h : o < 1024) : mb_pc 16 o = mb_pc 10 o := by
  have := mb_all_e 1024 mb_pc_10 o h
  simpa using this
theorem mb_pc_le : ∀ k n, mb_pc k n ≤ k := by
  intro k
  induction k with
  | zero => intro n; exact Nat.le_refl 0
  | succ k ih => intro n; have := ih (n / 2); unfold mb_pc; omega
theorem mb_andn {a k : Nat} (ha : a < 2147483648) (hk : k < 2147483648) : b_and (a : Int) (b_xor (k : Int) (-1)) = ((a ^^^ (a &&& k) : Nat) : Int) := by
  have e : (Int32.ofInt (a : Int) &&& (Int32.ofInt (k : Int) ^^^ Int32.ofInt (-1))).toBitVec.toNat = a ^^^ (a &&& k) := by
    have q : ∀ x y : BitVec 32, x &&& (y ^^^ (-1#32)) = x ^^^ (x &&& y) := by
      intro x y
      rw [show (-1#32) = BitVec.allOnes 32 by decide]
      ext i hi
      rw [BitVec.getElem_and, BitVec.getElem_xor, BitVec.getElem_xor, BitVec.getElem_and, BitVec.getElem_allOnes]
      cases x[i] <;> cases y[i] <;> rfl
    have q2 : (Int32.ofInt (a : Int) &&& (Int32.ofInt (k : Int) ^^^ Int32.ofInt (-1))).toBitVec = (Int32.ofInt (a : Int)).toBitVec &&& ((Int32.ofInt (k : Int)).toBitVec ^^^ (-1#32)) := rfl
    rw [q2, q, BitVec.toNat_xor, BitVec.toNat_and, mb_n ha, mb_n hk]
  unfold b_and b_xor
  rw [Int32.ofInt_toInt, mb_i, e]
  rw [e]
  exact Nat.xor_lt_two_pow (n := 31) ha (Nat.lt_of_le_of_lt Nat.and_le_left ha)
theorem mb_shl2 : ∀ e : Nat, e < 10 → b_shl 2 (e : Int) = ((2 ^ (e + 1) : Nat) : Int) := by decide +kernel
theorem s_number {Q : Int → ml_St → Prop} {th h : Int} {σ : ml_St} {f : Int → Int} (h2 : 2 ≤ h) (h5 : h ≤ 5) (hf : mt_M h f) (ra : mt_eq h (σ (th + 1)) f) (k : Q (mt_num h f : Int) σ) : f_X9_number σ th h Q := by
  have L : ∀ (N e o s : Nat), (e : Int) + N = 2 * h → mt_op h f e o → mt_nm f N e o s < 945 → Q (mt_nm f N e o s : Int) σ → f_X9_number_u13 Q (f_X9_number_u88 Q th) th (N + 1) σ h s o e := by
    intro N
    induction N with
    | zero =>
      intro e o s he p hs k
      unfold f_X9_number_u13
      refine ⟨mt_i (by omega) (by omega), fun _ => k, fun c => absurd c (by omega)⟩
    | succ N ih =>
      intro e o s he p hs k
      have hB := (mt_nm_B h5 hf (N + 1) e o s (by omega) p).1
      have hs2 : s < 945 := by
        have := Nat.mul_le_mul_left s (mb_R_pos (mb_pc 10 o))
        omega
      have eb : b_and (b_shr (o : Int) (e : Int)) 1 = if o.testBit e then 1 else 0 := mb_t_n (by have := p.1; omega) (by omega)
      unfold f_X9_number_u13
      rw [eb]
      unfold mt_nm at k hs
      refine ⟨mt_i (by omega) (by omega), fun c => absurd c (by omega), fun _ => ?_⟩
      by_cases q : o.testBit e = true
      · rw [if_pos q] at k hs
        rw [if_pos q]
        obtain ⟨g1, g2, g3, g4⟩ := mt_op_p h5 hf p q (by omega)
        obtain ⟨k1, k2, k3⟩ := mb_k p.1 (by omega) p.2.1 q
        have k5 := (k3 (f e).toNat (by omega) (by omega)).2 g3
        have hB2 := (mt_nm_B h5 hf N (e + 1) _ (s * (mb_pc 10 o - 1) + mb_pc 10 (mb_bt o e (f e).toNat)) (by omega) g4).1
        have hs3 : s * (mb_pc 10 o - 1) + mb_pc 10 (mb_bt o e (f e).toNat) < 945 := by
          have := Nat.mul_le_mul_left (s * (mb_pc 10 o - 1) + mb_pc 10 (mb_bt o e (f e).toNat)) (mb_R_pos (mb_pc 10 (mb_rm o e (f e).toNat)))
          omega
        have pl := mb_pc_le 10 o
        have ef : f e = ((f e).toNat : Int) := by omega
        have ho := p.1
        refine ⟨fun c => absurd c (by omega), fun _ => ⟨by omega, by omega, ?_⟩⟩
        rw [ra e (by omega) (by omega)]
        generalize hp : (f e).toNat = y at *
        rw [ef]
        have p31 : (2 : Nat) ^ y < 2 ^ 10 := Nat.pow_lt_pow_right (by omega) (by omega)
        have pe31 : (2 : Nat) ^ e < 2 ^ 10 := Nat.pow_lt_pow_right (by omega) (by omega)
        have pz : 2 ^ y - 2 ^ (e + 1) ≤ 2 ^ y := Nat.sub_le _ _
        have pp : (2 : Nat) ^ (e + 1) ≤ 2 ^ y := Nat.pow_le_pow_right (by omega) (by omega)
        have e1 : b_shl 1 (y : Int) - b_shl 2 (e : Int) = ((2 ^ y - 2 ^ (e + 1) : Nat) : Int) := by
          rw [mb_shl (by omega), mb_shl2 e (by omega), mb_c pp]
        rw [e1]
        intro _
        refine ⟨⟨by omega, by omega⟩, fun y6 g6 => ?_⟩
        rw [mb_and (by omega) (by omega)] at g6
        have g6 : y6 = ((mb_bt o e y : Nat) : Int) := g6
        subst g6
        have hbt : mb_bt o e y < 1024 := Nat.lt_of_le_of_lt Nat.and_le_left ho
        refine s_bitCount (by omega) ?_
        rw [mb_sw_pc ho, mb_pc10 ho]
        have em : (s : Int) * ((mb_pc 10 o : Nat) - 1) = ((s * (mb_pc 10 o - 1) : Nat) : Int) := by
          rw [show ((mb_pc 10 o : Nat) : Int) - 1 = ((mb_pc 10 o - 1 : Nat) : Int) by omega, Int.natCast_mul]
        rw [em]
        refine fun _ => ⟨⟨by omega, by omega⟩, ⟨by omega, by omega⟩, ?_⟩
        refine s_bitCount (by omega) ?_
        rw [mb_sw_pc hbt, mb_pc10 hbt]
        refine fun _ => ⟨⟨by omega, by omega⟩, fun y12 g12 => ⟨by omega, by omega, ?_⟩⟩
        rw [ra e (by omega) (by omega), ef]
        intro _ y14 g14
        rw [mb_shl (by omega), mb_shl (by omega), mb_or (by omega) (by omega), mb_andn (by omega) (Nat.or_lt_two_pow (n := 31) (by omega) (by omega))] at g14
        have g14 : y14 = ((mb_rm o e y : Nat) : Int) := g14
        subst g14
        unfold f_X9_number_u82
        refine ⟨mt_i (by omega) (by omega), fun y1 e1 => ?_⟩
        have e12 : y12 = ((s * (mb_pc 10 o - 1) + mb_pc 10 (mb_bt o e y) : Nat) : Int) := by rw [g12]; rfl
        subst e12
        have e1' : y1 = ((e + 1 : Nat) : Int) := by rw [e1]; rfl
        subst e1'
        exact ih (e + 1) _ _ (by omega) g4 hs k
      · rw [if_neg q] at k hs
        rw [if_neg q]
        refine ⟨fun _ => ?_, fun c => absurd rfl c⟩
        unfold f_X9_number_u82
        refine ⟨mt_i (by omega) (by omega), fun y1 e1 => ?_⟩
        have e1' : y1 = ((e + 1 : Nat) : Int) := by rw [e1]; rfl
        subst e1'
        exact ih (e + 1) o s (by omega) (mt_op_s h5 hf (by omega) p (by simpa using q)) hs k
  unfold f_X9_number f_X9_number_u0
  have l2 : (1 : Nat) ≤ 2 ^ (2 * h).toNat := Nat.two_pow_pos _
  have l10 : (2 : Nat) ^ (2 * h).toNat ≤ 2 ^ 10 := Nat.pow_le_pow_right (by omega) (by omega)
  have e0 : b_shl 1 (2 * h) - 1 = ((2 ^ (2 * h).toNat - 1 : Nat) : Int) := by
    rw [show 2 * h = (((2 * h).toNat : Nat) : Int) by omega, mb_shl (by omega)]
    rw [show ((((2 * h).toNat : Nat) : Int)).toNat = (2 * h).toNat by omega]
    omega
  rw [e0]
  refine ⟨mt_i (by omega) (by omega), ⟨by omega, by omega⟩, fun y3 g3 => ⟨(2 * h).toNat + 1, ?_⟩⟩
  subst g3
  exact L (2 * h).toNat 0 _ 0 (by omega) (mt_op_0 (by omega) h5 hf) (mt_num_lt h2 h5 hf) k
/-- the model's code -/
def mt_code (f : Int → Int) : Nat → Int
  | 0 => 0
  | n + 1 => 10 * mt_code f n + f n
def mt_cd (h : Int) (f : Int → Int) : Int := mt_code f (2 * h).toNat
theorem mt_code_B {h : Int} {f : Int → Int} (h5 : h ≤ 5) (hf : mt_M h f) : ∀ n : Nat, (n : Int) ≤ 2 * h → 0 ≤ mt_code f n ∧ mt_code f n < ((10 ^ n : Nat) : Int) := by
  intro n
  induction n with
  | zero => intro _; unfold mt_code; exact ⟨by omega, by decide⟩
  | succ n ih =>
    intro hn
    have g := hf n (by omega) (by omega)
    have i := ih (by omega)
    unfold mt_code
    rw [Nat.pow_succ, Int.natCast_mul]
    omega
theorem mt_code_inj {h : Int} {f g : Int → Int} (h5 : h ≤ 5) (hf : mt_M h f) (hg : mt_M h g) : ∀ n : Nat, (n : Int) ≤ 2 * h → mt_code f n = mt_code g n → ∀ e : Nat, e < n → f e = g e := by
  intro n
  induction n with
  | zero => intro _ _ e he; omega
  | succ n ih =>
    intro hn q e he
    unfold mt_code at q
    have x := hf n (by omega) (by omega)
    have y := hg n (by omega) (by omega)
    by_cases z : e = n
    · subst z; omega
    · exact ih (by omega) (by omega) e (by omega)
theorem mt_code_eq {f g : Int → Int} : ∀ n : Nat, (∀ e : Nat, e < n → f e = g e) → mt_code f n = mt_code g n := by
  intro n
  induction n with
  | zero => intro _; rfl
  | succ n ih => intro q; unfold mt_code; rw [ih (fun e he => q e (by omega)), q n (by omega)]
theorem mt_cd_iff {h : Int} {f g : Int → Int} (h2 : 0 ≤ h) (h5 : h ≤ 5) (hf : mt_M h f) (hg : mt_M h g) : mt_cd h f = mt_cd h g ↔ mt_eq h f g := by
  constructor
  · intro q e e0 e1
    have := mt_code_inj h5 hf hg (2 * h).toNat (by omega) q e.toNat (by omega)
    rw [show ((e.toNat : Nat) : Int) = e by omega] at this
    exact this
  · intro q
    exact mt_code_eq _ (fun e he => q e (by omega) (by omega))
theorem s_codeOf {Q : Int → ml_St → Prop} {m h : Int} {τ : ml_St} {f : Int → Int} (h2 : 2 ≤ h) (h5 : h ≤ 5) (r : 0 ≤ m ∧ m < 64) (th : τ 215 2 = h) (hf : mt_M h f) (ra : ∀ e, 0 ≤ e → e < 2 * h → τ 227 (10 * m + e) = f e) (k : Q (mt_cd h f) τ) : f_X12_codeOf τ m Q := by
  have L : ∀ (N : Nat) (n : Nat), (n : Int) ≤ 2 * h → 2 * h - n < N → f_X12_codeOf_u5 Q (f_X12_codeOf_u42 Q) N τ m (mt_code f n) n := by
    intro N
    induction N with
    | zero => intro n n1 hN; omega
    | succ N ih =>
      intro n n1 hN
      unfold f_X12_codeOf_u5
      rw [th]
      refine fun _ => ⟨mt_i (by omega) (by omega), fun c => ?_, fun c => ⟨mt_i (by omega) (by omega), mt_i (by omega) (by omega), by omega, by omega, ?_⟩⟩
      · have : n = (2 * h).toNat := by omega
        subst this
        exact k
      · rw [ra n (by omega) (by omega)]
        intro _ y9 e9
        refine ⟨mt_i (by omega) (by omega), fun y10 e10 => ?_⟩
        have b := mt_code_B h5 hf (n + 1) (by omega)
        have l : (10 : Nat) ^ (n + 1) ≤ 10 ^ 10 := Nat.pow_le_pow_right (by omega) (by omega)
        have e : y9 = mt_code f (n + 1) := by
          rw [e9, w64_al]
          exact w64_id ⟨by unfold mt_code at b; omega, by unfold mt_code at b; omega⟩
        have e2 : y10 = ((n + 1 : Nat) : Int) := by omega
        rw [e, e2]
        exact ih (n + 1) (by omega) (by omega)
  unfold f_X12_codeOf f_X12_codeOf_u0
  exact ⟨(2 * h).toNat + 1, L _ 0 (by omega) (by omega)⟩
/-! alike -/
def mt_al (v w : Int → Int) (a : Int) : Nat → Int
  | 0 => a
  | n + 1 => if mt_al v w a n = 0 then 0 else if v n = w n then 1 else 0
def mt_alike (h : Int) (v w : Int → Int) : Int := mt_al v w (if v 20 = w 20 then 1 else 0) (2 * h).toNat
theorem mt_al_i {v w : Int → Int} {a : Int} (ha : a = 0 ∨ a = 1) : ∀ n : Nat, (mt_al v w a n = 0 ∨ mt_al v w a n = 1) ∧ (mt_al v w a n = 1 ↔ a = 1 ∧ ∀ e : Nat, e < n → v e = w e) := by
  intro n
  induction n with
  | zero => exact ⟨ha, ⟨fun c => ⟨c, fun e he => absurd he (by omega)⟩, fun c => c.1⟩⟩
  | succ n ih =>
    obtain ⟨i1, i2⟩ := ih
    unfold mt_al
    by_cases q : mt_al v w a n = 0
    · rw [if_pos q]
      refine ⟨Or.inl rfl, fun c => absurd c (by omega), fun c => ?_⟩
      have := i2.2 ⟨c.1, fun e he => c.2 e (by omega)⟩
      omega
    · rw [if_neg q]
      have q1 : mt_al v w a n = 1 := i1.resolve_left q
      obtain ⟨j1, j2⟩ := i2.1 q1
      by_cases z : v n = w n
      · rw [if_pos z]
        refine ⟨Or.inr rfl, fun _ => ⟨j1, fun e he => ?_⟩, fun _ => rfl⟩
        by_cases y : e = n
        · subst y; exact z
        · exact j2 e (by omega)
      · rw [if_neg z]
        exact ⟨Or.inl rfl, fun c => absurd c (by omega), fun c => absurd (c.2 n (by omega)) z⟩
theorem s_isAlike {Q : Int → ml_St → Prop} {th p h : Int} {σ : ml_St} {v w : Int → Int} (h2 : 2 ≤ h) (h5 : h ≤ 5) (wv : mt_wv h σ th v) (ww : mt_wv h σ p w) (k : Q (mt_alike h v w) σ) : f_X9_isAlike σ th p h Q := by
  have L : ∀ (a : Int) (N : Nat) (n : Nat), a = (if v 20 = w 20 then 1 else 0) → (n : Int) ≤ 2 * h → 2 * h - n < N → f_X9_isAlike_u21 Q (f_X9_isAlike_u62 Q th p) th p N σ h (mt_al v w a n) n := by
    intro a N
    induction N with
    | zero => intro n ha n1 hN; omega
    | succ N ih =>
      intro n ha n1 hN
      obtain ⟨i1, i2⟩ := mt_al_i (v := v) (w := w) (a := a) (by rw [ha]; split <;> omega) n
      unfold f_X9_isAlike_u21
      refine ⟨mt_i (by omega) (by omega), fun c => ?_, fun c => ?_⟩
      · have : n = (2 * h).toNat := by omega
        subst this
        subst ha
        exact k
      have nx : ∀ s0, s0 = mt_al v w a (n + 1) → f_X9_isAlike_u55 Q (f_X9_isAlike_u21 Q (f_X9_isAlike_u62 Q th p) th p N) th p σ h n s0 := by
        intro s0 es
        unfold f_X9_isAlike_u55
        refine ⟨mt_i (by omega) (by omega), fun y1 e1 => ?_⟩
        have e1 : y1 = ((n + 1 : Nat) : Int) := by omega
        rw [es, e1]
        exact ih (n + 1) ha (by omega) (by omega)
      refine ⟨fun d => ?_, fun d => ⟨by omega, by omega, fun _ => ⟨by omega, by omega, ?_⟩⟩⟩
      · unfold f_X9_isAlike_u54
        refine nx 0 ?_
        unfold mt_al
        rw [if_pos d]
      · rw [(wv.1 n (by omega) (by omega)).1, (ww.1 n (by omega) (by omega)).1]
        refine fun _ => ⟨fun g => ?_, fun g => ?_⟩
        · unfold f_X9_isAlike_u54
          refine nx 0 ?_
          unfold mt_al
          rw [if_neg d, if_neg g]
        · refine nx 1 ?_
          unfold mt_al
          rw [if_neg d, if_pos g]
  unfold f_X9_isAlike f_X9_isAlike_u0
  rw [wv.2.1, ww.2.1]
  refine fun _ _ => ⟨fun c => ?_, fun c => ?_⟩
  · unfold f_X9_isAlike_u17
    exact ⟨(2 * h).toNat + 1, L 0 _ 0 (by rw [if_neg c]) (by omega) (by omega)⟩
  · unfold f_X9_isAlike_u17
    exact ⟨(2 * h).toNat + 1, L 1 _ 0 (by rw [if_pos c]) (by omega) (by omega)⟩
theorem s_areJoinedAlike {Q : Int → ml_St → Prop} {x1 x2 h : Int} {τ : ml_St} {v w : Int → Int} (h2 : 2 ≤ h) (h5 : h ≤ 5) (r1 : 0 ≤ x1 ∧ x1 < 64) (r2 : 0 ≤ x2 ∧ x2 < 64) (th : τ 215 2 = h) (wv : mt_mv h τ x1 v) (ww : mt_mv h τ x2 w) (k1 : (∀ e : Nat, e < (2 * h).toNat → v e = w e) → Q 1 τ) (k0 : (¬ ∀ e : Nat, e < (2 * h).toNat → v e = w e) → Q 0 τ) : f_X12_areJoinedAlike τ x1 x2 Q := by
  have L : ∀ (N : Nat) (n : Nat), (n : Int) ≤ 2 * h → 2 * h - n < N → (∀ e : Nat, e < n → v e = w e) → f_X12_areJoinedAlike_u2 Q (f_X12_areJoinedAlike_u37 Q) (f_X12_areJoinedAlike_u45 Q) N τ x1 x2 n := by
    intro N
    induction N with
    | zero => intro n n1 hN; omega
    | succ N ih =>
      intro n n1 hN hq
      unfold f_X12_areJoinedAlike_u2
      rw [th]
      refine fun _ => ⟨mt_i (by omega) (by omega), fun c => ?_, fun c => ⟨mt_i (by omega) (by omega), mt_i (by omega) (by omega), by omega, by omega, ?_⟩⟩
      · have : n = (2 * h).toNat := by omega
        subst this
        exact k1 hq
      · rw [(wv.1 n (by omega) (by omega)).1, (ww.1 n (by omega) (by omega)).1]
        refine fun _ => ⟨mt_i (by omega) (by omega), mt_i (by omega) (by omega), by omega, by omega, fun _ => ⟨fun g => ⟨mt_i (by omega) (by omega), fun y1 e1 => ?_⟩, fun g => ?_⟩⟩
        · have e1 : y1 = ((n + 1 : Nat) : Int) := by omega
          rw [e1]
          refine ih (n + 1) (by omega) (by omega) (fun e he => ?_)
          by_cases z : e = n
          · subst z; exact g
          · exact hq e (by omega)
        · exact k0 (fun c => g (c n (by omega)))
  unfold f_X12_areJoinedAlike f_X12_areJoinedAlike_u0
  exact ⟨(2 * h).toNat + 1, L _ 0 (by omega) (by omega) (fun e he => absurd he (by omega))⟩
theorem s_areAlike {Q : Int → ml_St → Prop} {x1 x2 h : Int} {τ : ml_St} {v w : Int → Int} (h2 : 2 ≤ h) (h5 : h ≤ 5) (r1 : 0 ≤ x1 ∧ x1 < 64) (r2 : 0 ≤ x2 ∧ x2 < 64) (th : τ 215 2 = h) (wv : mt_mv h τ x1 v) (ww : mt_mv h τ x2 w) (k : Q (mt_alike h v w) τ) : f_X12_areAlike τ x1 x2 Q := by
  obtain ⟨i1, i2⟩ := mt_al_i (v := v) (w := w) (a := if v 20 = w 20 then 1 else 0) (by split <;> omega) (2 * h).toNat
  unfold f_X12_areAlike f_X12_areAlike_u0
  rw [wv.2.1, ww.2.1]
  unfold mt_alike at k
  refine ⟨r1.1, r1.2, fun _ => ⟨r2.1, r2.2, fun _ => ⟨fun c => ?_, fun c => ?_⟩⟩⟩
  · unfold f_X12_areAlike_u29 f_X12_areAlike_u30
    rcases i1 with i1 | i1
    · rw [i1] at k; exact k
    · have := (i2.1 i1).1
      rw [if_neg c] at this
      omega
  · rw [if_pos c] at k i1 i2
    refine s_areJoinedAlike h2 h5 r1 r2 th wv ww (fun g => ?_) (fun g => ?_)
    · refine fun _ => ⟨fun d => absurd d (by omega), fun _ => ?_⟩
      unfold f_X12_areAlike_u30
      rw [i2.2 ⟨rfl, g⟩] at k; exact k
    · refine fun _ => ⟨fun _ => ?_, fun d => absurd rfl d⟩
      unfold f_X12_areAlike_u29 f_X12_areAlike_u30
      rcases i1 with i1 | i1
      · rw [i1] at k; exact k
      · exact absurd (i2.1 i1).2 g
