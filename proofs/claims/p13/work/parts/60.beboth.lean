theorem mt_eq_wa {h : Int} {σ : ml_St} {k : Int} {v : Int → Int} (w : mt_wv h σ k v) : mt_eq h (σ (k + 1)) v ∧ mt_eq h (σ (k + 2)) (mt_ln v) := ⟨fun e h0 h1 => (w.1 e h0 h1).1, fun e h0 h1 => (w.1 e h0 h1).2⟩
theorem s_joinFrom2 {Q : Int → ml_St → Prop} {th p2 p3 h x1 : Int} {σ : ml_St} {a b : Int → Int} (h2 : 2 ≤ h) (h5 : h ≤ 5) (ha : mt_M h a) (hb : mt_M h b) (wa : mt_wv h σ p2 a) (wb : mt_wv h σ p3 b) (h0 : 0 ≤ x1) (h1 : x1 < 2 * h)
    (q : Q (mt_met h a b 10 (mt_s h x1) 0) (ml_up (ml_up σ (th + 1) x1 (mt_both h a b x1)) (th + 2) x1 (mt_both h a b (10 + x1)))) : f_X9_joinFrom σ th p2 p3 x1 h Q := by
  obtain ⟨ea, ea2⟩ := mt_eq_wa wa
  obtain ⟨eb, eb2⟩ := mt_eq_wa wb
  obtain ⟨s1, s2, s3⟩ := mt_s_all h0 h1
  refine s_joinFrom h2 h5 (mt_eq_M ea ha) (mt_eq_M eb hb) h0 h1 ?_
  rw [mt_eq_met ea eb _ _ _ s1, mt_eq_sum ea eb ea2 eb2 _ _ _ s1]
  have e1 : mt_prod h (σ (p2 + 1)) (σ (p3 + 1)) x1 = mt_both h a b x1 := by
    rw [mt_eq_both h5 x1 h0 h1]
    unfold mt_prod
    rw [mt_eq_out ea eb _ _ s1]
  have e2 : mt_both h a b (10 + x1) = mt_sum h a b (mt_ln a) (mt_ln b) 10 (mt_s h x1) 0 := by
    unfold mt_both
    rw [if_neg (by omega), if_pos (by omega), show 10 + x1 - 10 = x1 by omega]
  rw [e1, ← e2]
  exact q
def mt_hd (h : Int) (a b : Int → Int) (th : Int) (σ : ml_St) (n : Nat) : Prop := σ th 2 = (mt_rs h a b n).2.1 ∧ σ th 3 = (mt_rs h a b n).2.2.1 ∧ σ th 4 = (mt_rs h a b n).2.2.2 ∧ σ th 5 = mt_both h a b 23 ∧ σ th 6 = mt_both h a b 24 ∧ σ th 7 = mt_both h a b 25
def mt_rows (h : Int) (a b : Int → Int) (th : Int) (σ : ml_St) (n : Int) : Prop := ∀ e, 0 ≤ e → e < n → σ (th + 1) e = mt_both h a b e ∧ σ (th + 2) e = mt_both h a b (10 + e)
theorem s_beBoth_E {Q : ml_St → Prop} {K : ml_St → Int → Int → Prop} {th p2 p3 h : Int} {σ0 : ml_St} {a b : Int → Int} (h2 : 2 ≤ h) (h5 : h ≤ 5) (d2 : th + 3 ≤ p2 ∨ p2 + 3 ≤ th) (d3 : th + 3 ≤ p3 ∨ p3 + 3 ≤ th) (ha : mt_M h a) (hb : mt_M h b) (wa : mt_wv h σ0 p2 a) (wb : mt_wv h σ0 p3 b)
    (k : ∀ σ, mt_fr th σ0 σ → mt_hd h a b th σ 0 → mt_rows h a b th σ (2 * h) → K σ h (mt_mm h a b (2 * h).toNat)) :
    ∀ (N : Nat) (n : Nat) (σ : ml_St), (n : Int) ≤ 2 * h → 2 * h - n < N → mt_fr th σ0 σ → mt_hd h a b th σ 0 → mt_rows h a b th σ n → f_X9_beBoth_u117 Q K th p2 p3 N σ h (mt_mm h a b n) n := by
  intro N
  induction N with
  | zero => intro n σ hn hN; omega
  | succ N ih =>
    intro n σ hn hN f hd hr
    unfold f_X9_beBoth_u117
    refine ⟨⟨by omega, by omega⟩, fun c => ?_, fun c => ?_⟩
    · have : n = (2 * h).toNat := by omega
      subst this
      exact k σ f hd (by rw [show (((2 * h).toNat : Nat) : Int) = 2 * h by omega] at hr; exact hr)
    · refine s_joinFrom2 h2 h5 ha hb (mt_wv_fr f d2 wa) (mt_wv_fr f d3 wb) (by omega) (by omega) ?_
      intro _ y4 e4
      refine ⟨⟨by omega, by omega⟩, fun y5 e5 => ?_⟩
      subst e4; subst e5
      refine ih (n + 1) _ (by omega) (by omega) (mt_fr_t (mt_fr_t f mt_fr_up1) mt_fr_up2) ?_ ?_
      · unfold mt_hd
        rw [ml_up_k (by omega), ml_up_k (by omega)]
        exact hd
      · intro e e0 e1
        by_cases q : e = n
        · subst q
          exact ⟨by rw [ml_up_k (by omega), ml_up_same], ml_up_same _ _ _ _⟩
        · rw [ml_up_k (show th + 1 ≠ th + 2 by omega), ml_up_i q, ml_up_i q, ml_up_k (show th + 2 ≠ th + 1 by omega)]
          exact hr e e0 (by omega)
theorem s_beBoth_R {Q : ml_St → Prop} {K : ml_St → Prop} {th p2 p3 h : Int} {σ0 : ml_St} {a b : Int → Int} (h2 : 2 ≤ h) (h5 : h ≤ 5) (d2 : th + 3 ≤ p2 ∨ p2 + 3 ≤ th) (d3 : th + 3 ≤ p3 ∨ p3 + 3 ≤ th) (ha : mt_M h a) (hb : mt_M h b) (wa : mt_wv h σ0 p2 a) (wb : mt_wv h σ0 p3 b)
    (k : ∀ σ, mt_fr th σ0 σ → mt_hd h a b th σ h.toNat → mt_rows h a b th σ (2 * h) → K σ) :
    ∀ (N : Nat) (n : Nat) (σ : ml_St), (n : Int) ≤ h → h - n < N → mt_fr th σ0 σ → mt_hd h a b th σ n → mt_rows h a b th σ (2 * h) → f_X9_beBoth_u148 Q K th p2 p3 N σ h (mt_rs h a b n).1 n := by
  intro N
  induction N with
  | zero => intro n σ hn hN; omega
  | succ N ih =>
    intro n σ hn hN f hd hr
    have hC := mt_rs_C (by omega) h5 ha hb n hn
    unfold f_X9_beBoth_u148
    refine ⟨fun c => ?_, fun c => ⟨fun d => ?_, fun d => ?_⟩⟩
    · have : n = h.toNat := by omega
      subst this
      exact k σ f hd hr
    · have e : mt_rs h a b (n + 1) = mt_rs h a b n := by
        conv => lhs; unfold mt_rs
        exact if_neg d
      unfold f_X9_beBoth_u178
      refine ⟨⟨by omega, by omega⟩, fun y1 e1 => ?_⟩
      subst e1
      rw [← e]
      exact ih (n + 1) σ (by omega) (by omega) f (by unfold mt_hd; rw [e]; exact hd) hr
    · have e : mt_rs h a b (n + 1) = (b_or (mt_rs h a b n).1 (mt_rg h a b n).1, w64 ((mt_rs h a b n).2.1 + 1), max (mt_rs h a b n).2.2.1 (mt_rg h a b n).2.1, w64 ((mt_rs h a b n).2.2.2 + (mt_rg h a b n).2.1)) := by
        conv => lhs; unfold mt_rs
        exact if_pos d
      refine s_addLoop h2 h5 ha hb (mt_wv_fr f d2 wa) (mt_wv_fr f d3 wb) hC (by omega) (by omega) d ?_
      intro _ _ y4 e4
      unfold f_X9_beBoth_u178
      refine ⟨⟨by omega, by omega⟩, fun y1 e1 => ?_⟩
      subst e4; subst e1
      have e1 : b_or (mt_rs h a b n).1 (mt_rg h a b n).1 = (mt_rs h a b (n + 1)).1 := by rw [e]
      rw [e1]
      obtain ⟨g2, g3, g4, g5, g6, g7⟩ := hd
      refine ih (n + 1) _ (by omega) (by omega) (mt_fr_t (mt_fr_t (mt_fr_t f mt_fr_up) mt_fr_up) mt_fr_up) ?_ ?_
      · unfold mt_hd
        rw [e, ml_up_i (show (2:Int) ≠ 4 by omega), ml_up_i (show (2:Int) ≠ 3 by omega), ml_up_same, ml_up_i (show (3:Int) ≠ 4 by omega), ml_up_same, ml_up_same, ml_up_i (show (5:Int) ≠ 4 by omega), ml_up_i (show (5:Int) ≠ 3 by omega), ml_up_i (show (5:Int) ≠ 2 by omega), ml_up_i (show (6:Int) ≠ 4 by omega), ml_up_i (show (6:Int) ≠ 3 by omega), ml_up_i (show (6:Int) ≠ 2 by omega), ml_up_i (show (7:Int) ≠ 4 by omega), ml_up_i (show (7:Int) ≠ 3 by omega), ml_up_i (show (7:Int) ≠ 2 by omega), g2, g3, g4]
        exact ⟨rfl, rfl, rfl, g5, g6, g7⟩
      · intro e e0 e1
        rw [ml_up_k (show th + 1 ≠ th by omega), ml_up_k (show th + 1 ≠ th by omega), ml_up_k (show th + 1 ≠ th by omega), ml_up_k (show th + 2 ≠ th by omega), ml_up_k (show th + 2 ≠ th by omega), ml_up_k (show th + 2 ≠ th by omega)]
        exact hr e e0 e1
theorem s_beBoth {Q : ml_St → Prop} {th p2 p3 h : Int} {σ : ml_St} {a b : Int → Int} (h2 : 2 ≤ h) (h5 : h ≤ 5) (d2 : th + 3 ≤ p2 ∨ p2 + 3 ≤ th) (d3 : th + 3 ≤ p3 ∨ p3 + 3 ≤ th) (ha : mt_M h a) (hb : mt_M h b) (wa : mt_wv h σ p2 a) (wb : mt_wv h σ p3 b)
    (k : ∀ σ', mt_fr th σ σ' → mt_wv h σ' th (mt_both h a b) → Q σ') : f_X9_beBoth σ th p2 p3 h Q := by
  have n2 : p2 ≠ th := by omega
  have n3 : p3 ≠ th := by omega
  have e20 : mt_both h a b 20 = (mt_rs h a b h.toNat).2.1 := by unfold mt_both; rw [if_neg (by omega), if_neg (by omega), if_pos rfl]
  have e21 : mt_both h a b 21 = (mt_rs h a b h.toNat).2.2.1 := by unfold mt_both; rw [if_neg (by omega), if_neg (by omega), if_neg (by omega), if_pos rfl]
  have e22 : mt_both h a b 22 = (mt_rs h a b h.toNat).2.2.2 := by unfold mt_both; rw [if_neg (by omega), if_neg (by omega), if_neg (by omega), if_neg (by omega), if_pos rfl]
  have e23 : mt_both h a b 23 = w64 (a 23 + min (b 23) (w64 (9000000000000000000 - a 23))) := by unfold mt_both; rw [if_neg (by omega), if_neg (by omega), if_neg (by omega), if_neg (by omega), if_neg (by omega), if_pos rfl]
  have e24 : mt_both h a b 24 = if a 24 = 0 ∧ b 24 = 0 then 0 else 1 := by unfold mt_both; rw [if_neg (by omega), if_neg (by omega), if_neg (by omega), if_neg (by omega), if_neg (by omega), if_neg (by omega), if_pos rfl]
  have e25 : mt_both h a b 25 = if a 25 = 0 ∧ b 25 = 0 then 0 else 1 := by unfold mt_both; rw [if_neg (by omega), if_neg (by omega), if_neg (by omega), if_neg (by omega), if_neg (by omega), if_neg (by omega), if_neg (by omega)]
  obtain ⟨a1, a20, a21, a22, a23, a24, a25⟩ := wa
  obtain ⟨b1, b20, b21, b22, b23, b24, b25⟩ := wb
  unfold f_X9_beBoth f_X9_beBoth_u0
  intro _ _ σ4 f4 _ _ σ7 f7 _ _ σ11 f11 _ _ _ σ17 f17 _
  have p4 : ∀ i, σ4 p2 i = σ p2 i ∧ σ4 p3 i = σ p3 i := fun i => by rw [f4, ml_up_k n2, ml_up_k n3]; exact ⟨rfl, rfl⟩
  have p7 : ∀ i, σ7 p2 i = σ p2 i ∧ σ7 p3 i = σ p3 i := fun i => by rw [f7, ml_up_k n2, ml_up_k n3]; exact p4 i
  have p11 : ∀ i, σ11 p2 i = σ p2 i ∧ σ11 p3 i = σ p3 i := fun i => by rw [f11, ml_up_k n2, ml_up_k n3]; exact p7 i
  have p17 : ∀ i, σ17 p2 i = σ p2 i ∧ σ17 p3 i = σ p3 i := fun i => by rw [f17, ml_up_k n2, ml_up_k n3]; exact p11 i
  have frA : mt_fr th σ σ17 := by
    rw [f17, f11, f7, f4]
    exact mt_fr_t (mt_fr_t (mt_fr_t mt_fr_up mt_fr_up) mt_fr_up) mt_fr_up
  rw [(p17 6).1, (p17 6).2, a24, b24]
  have h2v : σ17 th 2 = w64 (a 20 + b 20) := by
    rw [f17, ml_up_i (by omega), f11, ml_up_i (by omega), f7, ml_up_i (by omega), f4, ml_up_same, a20, b20]
  have h3v : σ17 th 3 = max (a 21) (b 21) := by
    rw [f17, ml_up_i (by omega), f11, ml_up_i (by omega), f7, ml_up_same, (p4 3).1, (p4 3).2, a21, b21]
  have h4v : σ17 th 4 = w64 (a 22 + b 22) := by
    rw [f17, ml_up_i (by omega), f11, ml_up_same, (p7 4).1, (p7 4).2, a22, b22]
  have h5v : σ17 th 5 = mt_both h a b 23 := by
    rw [f17, ml_up_same, (p11 5).1, (p11 5).2, a23, b23, e23]
  -- from the last stores on
  have rest : ∀ s6 s7 : Int, s6 = mt_both h a b 24 → s7 = mt_both h a b 25 → f_X9_beBoth_u108 Q th p2 p3 (ml_up σ17 th 6 s6) h s7 := by
    intro s6 s7 q6 q7
    unfold f_X9_beBoth_u108
    intro σ1 g1
    have fr1 : mt_fr th σ σ1 := by rw [g1]; exact mt_fr_t (mt_fr_t frA mt_fr_up) mt_fr_up
    have hd1 : mt_hd h a b th σ1 0 := by
      unfold mt_hd
      rw [g1, ml_up_i (show (2:Int) ≠ 7 by omega), ml_up_i (show (2:Int) ≠ 6 by omega), ml_up_i (show (3:Int) ≠ 7 by omega), ml_up_i (show (3:Int) ≠ 6 by omega), ml_up_i (show (4:Int) ≠ 7 by omega), ml_up_i (show (4:Int) ≠ 6 by omega), ml_up_i (show (5:Int) ≠ 7 by omega), ml_up_i (show (5:Int) ≠ 6 by omega), ml_up_i (show (6:Int) ≠ 7 by omega), ml_up_same, ml_up_same, h2v, h3v, h4v, h5v]
      exact ⟨rfl, rfl, rfl, rfl, q6, q7⟩
    refine ⟨(2 * h).toNat + 1, ?_⟩
    have wa : mt_wv h σ p2 a := ⟨a1, a20, a21, a22, a23, a24, a25⟩
    have wb : mt_wv h σ p3 b := ⟨b1, b20, b21, b22, b23, b24, b25⟩
    refine s_beBoth_E h2 h5 d2 d3 ha hb wa wb (fun σ2 f2 hd2 r2 => ?_) _ 0 σ1 (by omega) (by omega) fr1 hd1 (fun e e0 e1 => absurd e1 (by omega))
    unfold f_X9_beBoth_u145
    refine ⟨h.toNat + 1, ?_⟩
    refine s_beBoth_R h2 h5 d2 d3 ha hb wa wb (fun σ3 f3 hd3 r3 => ?_) _ 0 σ2 (by omega) (by omega) f2 hd2 r2
    unfold f_X9_beBoth_u184
    refine k σ3 f3 ⟨r3, ?_⟩
    rw [e20, e21, e22]
    exact hd3
  have part7 : ∀ s6 : Int, s6 = mt_both h a b 24 → f_X9_beBoth_u85 Q th p2 p3 σ17 h s6 := by
    intro s6 q6
    unfold f_X9_beBoth_u85
    intro σ1 g1 _
    have e1 : σ1 p2 7 = a 25 := by rw [g1, ml_up_k n2, (p17 7).1, a25]
    have e2 : σ1 p3 7 = b 25 := by rw [g1, ml_up_k n3, (p17 7).2, b25]
    rw [e1, e2]
    subst g1
    refine ⟨fun c => ?_, fun c _ => ⟨fun d => ?_, fun d => ?_⟩⟩
    · unfold f_X9_beBoth_u103
      exact rest s6 1 q6 (by rw [e25, if_neg (fun z => c z.1)])
    · exact rest s6 0 q6 (by rw [e25, if_pos ⟨c, d⟩])
    · unfold f_X9_beBoth_u103
      exact rest s6 1 q6 (by rw [e25, if_neg (fun z => d z.2)])
  refine ⟨fun c => ?_, fun c _ => ⟨fun d => ?_, fun d => ?_⟩⟩
  · unfold f_X9_beBoth_u80
    exact part7 1 (by rw [e24, if_neg (fun z => c z.1)])
  · exact part7 0 (by rw [e24, if_pos ⟨c, d⟩])
  · unfold f_X9_beBoth_u80
    exact part7 1 (by rw [e24, if_neg (fun z => d z.2)])
