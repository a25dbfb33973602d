theorem mt_both_ln {h : Int} {a b : Int → Int} (h5 : h ≤ 5) {e : Int} (e0 : 0 ≤ e) (e1 : e < 2 * h) : mt_both h a b (10 + e) = mt_sum h a b (mt_ln a) (mt_ln b) 10 (mt_s h e) 0 := by
  unfold mt_both
  rw [if_neg (by omega), if_pos (by omega), show 10 + e - 10 = e by omega]
def mt_seen (h : Int) (a b : Int → Int) (σ : ml_St) (n : Int) : Prop := ∀ r, 0 ≤ r → r < h → (σ 232 r = 0 ∨ σ 232 r = 1) ∧ (σ 232 r = 1 ↔ ∃ e, 0 ≤ e ∧ e < 2 * h ∧ (e < n ∨ (h ≤ e ∧ e < h + n)) ∧ mt_hit h a b 10 (mt_s h e) r)
def mt_mrow (h : Int) (a b : Int → Int) (x3 : Int) (σ : ml_St) (n : Int) : Prop := ∀ e, 0 ≤ e → e < 2 * h → (e < n ∨ (h ≤ e ∧ e < h + n)) → σ 227 (10 * x3 + e) = mt_both h a b e ∧ σ 228 (10 * x3 + e) = mt_both h a b (10 + e)
/-- one lead, taken down -/
theorem s_lead2 {K : ml_St → Prop} {x1 x2 x3 h e i : Int} {σ : ml_St} {a b : Int → Int} (h2 : 2 ≤ h) (h5 : h ≤ 5) (r1 : 0 ≤ x1 ∧ x1 < 64) (r2 : 0 ≤ x2 ∧ x2 < 64) (r3 : 0 ≤ x3 ∧ x3 < 64) (th : σ 215 2 = h) (ha : mt_M h a) (hb : mt_M h b) (wa : mt_mv h σ x1 a) (wb : mt_mv h σ x2 b) (e0 : 0 ≤ e) (e1 : e < 2 * h) (hi : (i = 1 ∧ e < h) ∨ (i = 0 ∧ h ≤ e)) {Q : Int → ml_St → Prop}
    (hQ : ∀ τ, τ 215 27 = mt_both h a b (10 + e) → mt_mf x3 σ τ → τ 227 = σ 227 → τ 228 = σ 228 → τ 229 = σ 229 → τ 230 = σ 230 → τ 231 = σ 231 → (∀ r, (mt_hit h a b 10 (mt_s h e) r → τ 232 r = 1) ∧ (¬ mt_hit h a b 10 (mt_s h e) r → τ 232 r = σ 232 r)) → Q (mt_both h a b e) τ) : f_X12_leads σ x1 x2 i e Q := by
  have hx : mt_x h e i = mt_s h e := by
    unfold mt_x mt_s
    rcases hi with ⟨c, d⟩ | ⟨c, d⟩
    · rw [if_neg (by omega), if_pos d]
    · rw [if_pos c, if_neg (by omega)]
  refine s_leads (a := a) (b := b) (ra := mt_ln a) (rb := mt_ln b) h2 h5 r1.1 r1.2 r2.1 r2.2 ha hb e0 e1 (by omega) hx th (fun e e0 e1 => ?_) ?_
  · exact ⟨(wa.1 e e0 e1).1, (wb.1 e e0 e1).1, (wa.1 e e0 e1).2, (wb.1 e e0 e1).2⟩
  obtain ⟨l1, l2, l3⟩ := mt_lead_k (h := h) (a := a) (b := b) (ra := mt_ln a) (rb := mt_ln b) 10 (mt_s h e) (ml_up σ 215 27 0)
  rw [← mt_eq_both h5 e e0 e1]
  refine hQ _ ?_ (mt_mf_t mt_mf_went mt_mf_lead) ?_ ?_ ?_ ?_ ?_ (fun r => ?_)
  · rw [l3, ml_up_same, mt_both_ln h5 e0 e1]
  · rw [l1 _ (by omega) (by omega), ml_up_k (by omega)]
  · rw [l1 _ (by omega) (by omega), ml_up_k (by omega)]
  · rw [l1 _ (by omega) (by omega), ml_up_k (by omega)]
  · rw [l1 _ (by omega) (by omega), ml_up_k (by omega)]
  · rw [l1 _ (by omega) (by omega), ml_up_k (by omega)]
  · obtain ⟨s1, s2⟩ := mt_lead_s (h := h) (a := a) (b := b) (ra := mt_ln a) (rb := mt_ln b) (r := r) 10 (mt_s h e) (ml_up σ 215 27 0)
    rw [ml_up_k (show (232:Int) ≠ 215 by omega)] at s2
    exact ⟨s1, s2⟩
theorem s_lays_L {Q : ml_St → Prop} {K : ml_St → Int → Int → Int → Prop} {x1 x2 x3 h : Int} {τ : ml_St} {a b : Int → Int} (h2 : 2 ≤ h) (h5 : h ≤ 5) (r1 : 0 ≤ x1 ∧ x1 < 64) (r2 : 0 ≤ x2 ∧ x2 < 64) (r3 : 0 ≤ x3 ∧ x3 < 64) (th : τ 215 2 = h) (ha : mt_M h a) (hb : mt_M h b) (wa : mt_mv h τ x1 a) (wb : mt_mv h τ x2 b) (d1 : x1 ≠ x3) (d2 : x2 ≠ x3)
    (k : ∀ σ, mt_mf x3 τ σ → mt_mrow h a b x3 σ h → mt_seen h a b σ h → K σ x1 x2 x3) :
    ∀ (N : Nat) (n : Int) (σ : ml_St), 0 ≤ n → n ≤ h → h - n < N → mt_mf x3 τ σ → mt_mrow h a b x3 σ n → mt_seen h a b σ n → f_X12_lays_u29 Q K N σ x1 x2 x3 n := by
  have hI : ∀ x : Int, -1 ≤ x → x < 1000 → I32 x := fun x _ _ => ⟨by omega, by omega⟩
  intro N
  induction N with
  | zero => intro n σ hn hN; omega
  | succ N ih =>
    intro n σ n0 hn hN f hr hs
    have th1 : σ 215 2 = h := by rw [f.2.1 2 (by omega), th]
    unfold f_X12_lays_u29
    rw [th1]
    refine fun _ => ⟨fun c => ?_, fun c => ?_⟩
    · have : n = h := by omega
      subst this
      exact k σ f hr hs
    · refine s_lead2 (x3 := x3) (K := fun _ => True) h2 h5 r1 r2 r3 th1 ha hb (mt_mv_f h5 f d1 wa) (mt_mv_f h5 f d2 wb) n0 (by omega) (Or.inl ⟨rfl, by omega⟩) (fun σ3 g27 gf g227 g228 g229 g230 g231 gs => ?_)
      have th3 : σ3 215 2 = h := by rw [gf.2.1 2 (by omega), th1]
      refine fun _ => ⟨hI _ (by omega) (by omega), hI _ (by omega) (by omega), by omega, by omega, fun σ6 s6 => ⟨hI _ (by omega) (by omega), hI _ (by omega) (by omega), ?_⟩⟩
      have w6 : σ6 215 = σ3 215 := by rw [s6, ml_up_k (by omega)]
      rw [w6]
      refine fun _ => ⟨by omega, by omega, fun σ10 s10 => ?_⟩
      have w10 : σ10 215 = σ3 215 := by rw [s10, ml_up_k (by omega), w6]
      rw [w10, th3]
      refine fun _ => ⟨hI _ (by omega) (by omega), ?_⟩
      have f10 : mt_mf x3 τ σ10 := by
        rw [s10, s6]
        exact mt_mf_t (mt_mf_t (mt_mf_t f gf) (mt_mf_row (by omega) (by omega) (by omega))) (mt_mf_row (by omega) (by omega) (by omega))
      have th10 : σ10 215 2 = h := by rw [w10, th3]
      refine s_lead2 (x3 := x3) (K := fun _ => True) h2 h5 r1 r2 r3 th10 ha hb (mt_mv_f h5 f10 d1 wa) (mt_mv_f h5 f10 d2 wb) (by omega) (by omega) (Or.inr ⟨rfl, by omega⟩) (fun σ13 k27 kf k227 k228 k229 k230 k231 ks => ?_)
      have th13 : σ13 215 2 = h := by rw [kf.2.1 2 (by omega), th10]
      rw [th13]
      refine fun _ => ⟨hI _ (by omega) (by omega), fun _ => ⟨hI _ (by omega) (by omega), hI _ (by omega) (by omega), by omega, by omega, fun σ18 s18 => ⟨hI _ (by omega) (by omega), ?_⟩⟩⟩
      have w18 : σ18 215 = σ13 215 := by rw [s18, ml_up_k (by omega)]
      rw [w18, th13]
      refine fun _ => ⟨hI _ (by omega) (by omega), hI _ (by omega) (by omega), fun _ => ⟨by omega, by omega, fun σ24 s24 => ⟨hI _ (by omega) (by omega), fun y25 e25 => ?_⟩⟩⟩
      subst e25
      have f24 : mt_mf x3 τ σ24 := by
        rw [s24, s18]
        exact mt_mf_t (mt_mf_t (mt_mf_t f10 kf) (mt_mf_row (by omega) (by omega) (by omega))) (mt_mf_row (by omega) (by omega) (by omega))
      refine ih (n + 1) σ24 (by omega) (by omega) (by omega) f24 ?_ ?_
      · intro e e0 e1 c
        have v227 : σ24 227 (10 * x3 + e) = if e = h + n then mt_both h a b (h + n) else if e = n then mt_both h a b n else σ 227 (10 * x3 + e) := by
          rw [s24, ml_up_k (by omega), s18]
          by_cases q : e = h + n
          · rw [if_pos q, q, show 10 * x3 + h + n = 10 * x3 + (h + n) by omega, ml_up_same]
          · rw [if_neg q, ml_up_i (by omega), k227, s10, ml_up_k (by omega), s6]
            by_cases q2 : e = n
            · rw [if_pos q2, q2, ml_up_same]
            · rw [if_neg q2, ml_up_i (by omega), g227]
        have v228 : σ24 228 (10 * x3 + e) = if e = h + n then mt_both h a b (10 + (h + n)) else if e = n then mt_both h a b (10 + n) else σ 228 (10 * x3 + e) := by
          rw [s24]
          by_cases q : e = h + n
          · rw [if_pos q, q, show 10 * x3 + h + n = 10 * x3 + (h + n) by omega, ml_up_same, k27]
          · rw [if_neg q, ml_up_i (by omega), s18, ml_up_k (by omega), k228, s10]
            by_cases q2 : e = n
            · rw [if_pos q2, q2, ml_up_same, g27]
            · rw [if_neg q2, ml_up_i (by omega), s6, ml_up_k (by omega), g228]
        rw [v227, v228]
        by_cases q : e = h + n
        · rw [if_pos q, if_pos q, q]; exact ⟨rfl, rfl⟩
        · rw [if_neg q, if_neg q]
          by_cases q2 : e = n
          · rw [if_pos q2, if_pos q2, q2]; exact ⟨rfl, rfl⟩
          · rw [if_neg q2, if_neg q2]
            exact hr e e0 e1 (by omega)
      · intro r r0 r1
        obtain ⟨z1, z2⟩ := hs r r0 r1
        obtain ⟨g1, g2⟩ := gs r
        obtain ⟨k1, k2⟩ := ks r
        have v : σ24 232 r = σ13 232 r := by rw [s24, ml_up_k (by omega), s18, ml_up_k (by omega)]
        have v10 : σ10 232 r = σ3 232 r := by rw [s10, ml_up_k (by omega), s6, ml_up_k (by omega)]
        rw [v]
        rw [v10] at k2
        by_cases c2 : mt_hit h a b 10 (mt_s h (h + n)) r
        · rw [k1 c2]
          exact ⟨Or.inr rfl, fun _ => ⟨h + n, by omega, by omega, by omega, c2⟩, fun _ => rfl⟩
        · rw [k2 c2]
          by_cases c1 : mt_hit h a b 10 (mt_s h n) r
          · rw [g1 c1]
            exact ⟨Or.inr rfl, fun _ => ⟨n, by omega, by omega, by omega, c1⟩, fun _ => rfl⟩
          · rw [g2 c1]
            refine ⟨z1, fun d => ?_, fun ⟨e, e0, e1, e2, e3⟩ => ?_⟩
            · obtain ⟨e, e0, e1, e2, e3⟩ := z2.1 d
              exact ⟨e, e0, e1, by omega, e3⟩
            · have ne1 : e ≠ n := fun q => c1 (q ▸ e3)
              have ne2 : e ≠ h + n := fun q => c2 (q ▸ e3)
              exact z2.2 ⟨e, e0, e1, by omega, e3⟩
def mt_mhd (h : Int) (a b : Int → Int) (x3 : Int) (σ : ml_St) (n : Nat) : Prop := σ 229 x3 = (mt_rs h a b n).2.1 ∧ σ 230 x3 = (mt_rs h a b n).2.2.1 ∧ σ 231 x3 = (mt_rs h a b n).2.2.2
def mt_msn (h : Int) (σ : ml_St) (m : Int) : Prop := ∀ r, 0 ≤ r → r < h → σ 232 r = mb_t m r
theorem s_lays_R {Q : ml_St → Prop} {K : ml_St → Prop} {x1 x2 x3 h : Int} {τ : ml_St} {a b : Int → Int} (h2 : 2 ≤ h) (h5 : h ≤ 5) (r1 : 0 ≤ x1 ∧ x1 < 64) (r2 : 0 ≤ x2 ∧ x2 < 64) (r3 : 0 ≤ x3 ∧ x3 < 64) (th : τ 215 2 = h) (ha : mt_M h a) (hb : mt_M h b) (wa : mt_mv h τ x1 a) (wb : mt_mv h τ x2 b) (d1 : x1 ≠ x3) (d2 : x2 ≠ x3)
    (k : ∀ σ, mt_mf x3 τ σ → mt_mrow h a b x3 σ h → mt_mhd h a b x3 σ h.toNat → K σ) :
    ∀ (N : Nat) (n : Nat) (σ : ml_St), (n : Int) ≤ h → h - n < N → mt_mf x3 τ σ → mt_mrow h a b x3 σ h → mt_mhd h a b x3 σ n → mt_msn h σ (mt_rs h a b n).1 → f_X12_lays_u219 Q K N σ x1 x2 x3 n := by
  intro N
  induction N with
  | zero => intro n σ hn hN; omega
  | succ N ih =>
    intro n σ hn hN f hr hd hs
    have th1 : σ 215 2 = h := by rw [f.2.1 2 (by omega), th]
    have hC := mt_rs_C (by omega) h5 ha hb n hn
    unfold f_X12_lays_u219
    rw [th1]
    refine fun _ => ⟨fun c => ?_, fun c => ⟨by omega, by omega, ?_⟩⟩
    · have : n = h.toNat := by omega
      subst this
      exact k σ f hr hd
    rw [hs n (by omega) (by omega)]
    refine fun _ => ⟨fun d => ?_, fun d => ?_⟩
    · have e : mt_rs h a b (n + 1) = mt_rs h a b n := by
        conv => lhs; unfold mt_rs
        exact if_neg d
      unfold f_X12_lays_u247
      refine ⟨⟨by omega, by omega⟩, fun y1 e1 => ?_⟩
      subst e1
      exact ih (n + 1) σ (by omega) (by omega) f hr (by unfold mt_mhd; rw [e]; exact hd) (by rw [e]; exact hs)
    · have e : mt_rs h a b (n + 1) = (b_or (mt_rs h a b n).1 (mt_rg h a b n).1, w64 ((mt_rs h a b n).2.1 + 1), max (mt_rs h a b n).2.2.1 (mt_rg h a b n).2.1, w64 ((mt_rs h a b n).2.2.2 + (mt_rg h a b n).2.1)) := by
        conv => lhs; unfold mt_rs
        exact if_pos d
      refine s_ring h2 h5 r1 r2 r3 th1 ha hb (mt_mv_f h5 f d1 wa) (mt_mv_f h5 f d2 wb) d1 d2 hC (by omega) (by omega) d (fun σ' f' g227 g228 g229 g230 g231 gs => ?_)
      unfold f_X12_lays_u247
      refine ⟨⟨by omega, by omega⟩, fun y1 e1 => ?_⟩
      subst e1
      obtain ⟨hd1, hd2, hd3⟩ := hd
      refine ih (n + 1) σ' (by omega) (by omega) (mt_mf_t f f') ?_ ?_ ?_
      · intro e e0 e1 c; rw [g227, g228]; exact hr e e0 e1 c
      · unfold mt_mhd
        rw [e, g229, g230, g231, hd1, hd2, hd3]
        exact ⟨rfl, rfl, rfl⟩
      · intro r r0 r1
        rw [e]
        show σ' 232 r = mb_t (b_or (mt_rs h a b n).1 (mt_rg h a b n).1) r
        obtain ⟨g1, g2⟩ := gs r r0 r1
        have key := (mt_rg_e h5 ha hb hC (by omega) (by omega) d).2.2 r r0 r1
        rcases mb_t_01 (mt_rg h a b n).1 r with z | z
        · rw [g2 z, hs r r0 r1]
          rcases mb_t_01 (mt_rs h a b n).1 r with y | y
          · rcases mb_t_01 (b_or (mt_rs h a b n).1 (mt_rg h a b n).1) r with w | w
            · rw [y, w]
            · rcases key.1 w with v | v <;> omega
          · rw [y, key.2 (Or.inl y)]
        · rw [g1 z, key.2 (Or.inr z)]
theorem s_lays {Q : ml_St → Prop} {x1 x2 x3 h : Int} {τ : ml_St} {a b : Int → Int} (h2 : 2 ≤ h) (h5 : h ≤ 5) (r1 : 0 ≤ x1 ∧ x1 < 64) (r2 : 0 ≤ x2 ∧ x2 < 64) (r3 : 0 ≤ x3 ∧ x3 < 64) (th : τ 215 2 = h) (ha : mt_M h a) (hb : mt_M h b) (wa : mt_mv h τ x1 a) (wb : mt_mv h τ x2 b) (d1 : x1 ≠ x3) (d2 : x2 ≠ x3)
    (k : ∀ σ, mt_mf x3 τ σ → mt_mv h σ x3 (mt_both h a b) → Q σ) : f_X12_lays τ x1 x2 x3 Q := by
  have e20 : mt_both h a b 20 = (mt_rs h a b h.toNat).2.1 := by unfold mt_both; rw [if_neg (by omega), if_neg (by omega), if_pos rfl]
  have e21 : mt_both h a b 21 = (mt_rs h a b h.toNat).2.2.1 := by unfold mt_both; rw [if_neg (by omega), if_neg (by omega), if_neg (by omega), if_pos rfl]
  have e22 : mt_both h a b 22 = (mt_rs h a b h.toNat).2.2.2 := by unfold mt_both; rw [if_neg (by omega), if_neg (by omega), if_neg (by omega), if_neg (by omega), if_pos rfl]
  unfold f_X12_lays f_X12_lays_u0
  -- seen is cleared
  have clr : ∀ (N : Nat) (n : Int) (σ : ml_St), 0 ≤ n → n ≤ h → h - n < N → mt_mf x3 τ σ → (∀ r, 0 ≤ r → r < n → σ 232 r = 0) → (∀ σ, mt_mf x3 τ σ → (∀ r, 0 ≤ r → r < h → σ 232 r = 0) → f_X12_lays_u26 Q σ x1 x2 x3) → f_X12_lays_u3 Q (f_X12_lays_u26 Q) N σ x1 x2 x3 n := by
    intro N
    induction N with
    | zero => intro n σ n0 hn hN; omega
    | succ N ih =>
      intro n σ n0 hn hN f hz kk
      have th1 : σ 215 2 = h := by rw [f.2.1 2 (by omega), th]
      unfold f_X12_lays_u3
      rw [th1]
      refine fun _ => ⟨fun c => ?_, fun c => ⟨n0, by omega, fun σ3 s3 => ⟨⟨by omega, by omega⟩, fun y4 e4 => ?_⟩⟩⟩
      · have : n = h := by omega
        subst this
        exact kk σ f hz
      · subst e4
        refine ih (n + 1) σ3 (by omega) (by omega) (by omega) (by rw [s3]; exact mt_mf_t f mt_mf_seen) (fun r r0 r1 => ?_) kk
        rw [s3]
        by_cases q : r = n
        · rw [q, ml_up_same]
        · rw [ml_up_i q]; exact hz r r0 (by omega)
  refine ⟨h.toNat + 1, clr _ 0 τ (by omega) (by omega) (by omega) mt_mf_r (fun r r0 r1 => absurd r1 (by omega)) (fun σ f hz => ?_)⟩
  unfold f_X12_lays_u26
  refine ⟨h.toNat + 1, s_lays_L h2 h5 r1 r2 r3 th ha hb wa wb d1 d2 (fun σ2 f2 hr2 hs2 => ?_) _ 0 σ (by omega) (by omega) (by omega) f (fun e e0 e1 c => absurd c (by omega)) (fun r r0 r1 => ?_)⟩
  · -- the heads, then the rings
    have wa2 := mt_mv_f h5 f2 d1 wa
    have wb2 := mt_mv_f h5 f2 d2 wb
    obtain ⟨-, a20, a21, a22⟩ := wa2
    obtain ⟨-, b20, b21, b22⟩ := wb2
    unfold f_X12_lays_u141
    refine ⟨r1.1, r1.2, fun _ => ⟨r2.1, r2.2, fun _ => ⟨r3.1, r3.2, fun σ4 s4 => ⟨r1.1, r1.2, fun _ => ⟨r2.1, r2.2, fun _ => ⟨r3.1, r3.2, fun σ8 s8 => ⟨r1.1, r1.2, fun _ => ⟨r2.1, r2.2, fun _ => ?_⟩⟩⟩⟩⟩⟩⟩⟩
    have v4 : ∀ x, σ4 231 x = σ2 231 x := fun x => by rw [s4, ml_up_k (by omega)]
    have v8 : ∀ x, σ8 230 x = σ2 230 x := fun x => by rw [s8, ml_up_k (by omega), s4, ml_up_k (by omega)]
    have fin : ∀ s2, s2 = max (a 21) (b 21) → f_X12_lays_u215 Q σ8 x1 x2 x3 x3 s2 := by
      intro s2 es
      unfold f_X12_lays_u215
      refine ⟨r3.1, r3.2, fun σ1 s1 => ⟨h.toNat + 1, ?_⟩⟩
      have u : ∀ k, k ≠ 229 → k ≠ 230 → k ≠ 231 → σ1 k = σ2 k := fun k g1 g2 g3 => by rw [s1, ml_up_k g2, s8, ml_up_k g3, s4, ml_up_k g1]
      refine s_lays_R h2 h5 r1 r2 r3 th ha hb wa wb d1 d2 (fun σ3 f3 hr3 hd3 => ?_) _ 0 σ1 (by omega) (by omega) ?_ ?_ ?_ ?_
      · unfold f_X12_lays_u253
        refine k σ3 f3 ⟨fun e e0 e1 => hr3 e e0 e1 (by omega), ?_⟩
        rw [e20, e21, e22]
        exact hd3
      · rw [s1, s8, s4]
        exact mt_mf_t (mt_mf_t (mt_mf_t f2 (mt_mf_fld (by omega))) (mt_mf_fld (by omega))) (mt_mf_fld (by omega))
      · intro e e0 e1 c
        rw [u 227 (by omega) (by omega) (by omega), u 228 (by omega) (by omega) (by omega)]
        exact hr2 e e0 e1 c
      · unfold mt_mhd
        rw [s1, ml_up_k (show (229:Int) ≠ 230 by omega), ml_up_same, ml_up_k (show (231:Int) ≠ 230 by omega), s8, ml_up_k (show (229:Int) ≠ 231 by omega), ml_up_same, s4, ml_up_same, ml_up_k (show (231:Int) ≠ 229 by omega), a20, b20, a22, b22, es]
        exact ⟨rfl, rfl, rfl⟩
      · intro r r0 r1
        rw [u 232 (by omega) (by omega) (by omega)]
        obtain ⟨z1, z2⟩ := hs2 r r0 r1
        show σ2 232 r = mb_t (mt_mm h a b (2 * h).toNat) r
        obtain ⟨m1, m2⟩ := mt_mm_bit (a := a) (b := b) h5 (2 * h).toNat
        have g := m2 r r0 r1
        have e : σ2 232 r = 1 ↔ mb_t (mt_mm h a b (2 * h).toNat) r = 1 := by
          rw [z2, g]
          constructor
          · rintro ⟨e, e0, e1, e2, e3⟩
            exact ⟨e.toNat, by omega, by rw [show ((e.toNat : Nat) : Int) = e by omega]; exact e3⟩
          · rintro ⟨e, e1, e3⟩
            exact ⟨e, by omega, by omega, by omega, e3⟩
        rcases mb_t_01 (mt_mm h a b (2 * h).toNat) r with y | y
        · rcases z1 with w | w
          · rw [y, w]
          · have := e.1 w; omega
        · rw [y, e.2 y]
    rw [v8, v8, a21, b21]
    exact ⟨fun c => ⟨r2.1, r2.2, fun _ => fin _ (by omega)⟩, fun c => ⟨r1.1, r1.2, fun _ => fin _ (by omega)⟩⟩
  · rw [hz r r0 r1]
    exact ⟨Or.inl rfl, fun c => absurd c (by omega), fun ⟨e, e0, e1, e2, e3⟩ => absurd e2 (by omega)⟩
