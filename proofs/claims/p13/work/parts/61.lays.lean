/-! the model: what it lays of two -/
theorem mt_lead_k {h : Int} {a b ra rb : Int → Int} : ∀ (F : Nat) (x : Int) (τ : ml_St), (∀ k, k ≠ 215 → k ≠ 232 → mt_lead h a b ra rb F x τ k = τ k) ∧ (∀ j, j ≠ 27 → mt_lead h a b ra rb F x τ 215 j = τ 215 j) ∧ mt_lead h a b ra rb F x τ 215 27 = mt_sum h a b ra rb F x (τ 215 27) := by
  intro F
  induction F with
  | zero =>
    intro x τ
    unfold mt_lead mt_sum
    exact ⟨fun k h1 h2 => ml_up_k h1, fun j h1 => ml_up_i h1, ml_up_same _ _ _ _⟩
  | succ F ih =>
    intro x τ
    by_cases q : h ≤ mt_P h a b x ∧ mt_P h a b x < 3 * h
    · rw [mt_lead_in q, mt_sum_in q]
      obtain ⟨i1, i2, i3⟩ := ih (mt_J h (mt_P h a b x)) (ml_up (ml_up τ 215 27 (w64 (τ 215 27 + mt_R h ra rb x))) 232 (mt_rl h (mt_P h a b x)) 1)
      refine ⟨fun k h1 h2 => ?_, fun j h1 => ?_, ?_⟩
      · rw [i1 k h1 h2, ml_up_k h2, ml_up_k h1]
      · rw [i2 j h1, ml_up_k (by omega), ml_up_i h1]
      · rw [i3, ml_up_k (by omega), ml_up_same]
    · rw [mt_lead_out q, mt_sum_out q]
      exact ⟨fun k h1 h2 => ml_up_k h1, fun j h1 => ml_up_i h1, ml_up_same _ _ _ _⟩
theorem mt_lead_s {h : Int} {a b ra rb : Int → Int} {r : Int} : ∀ (F : Nat) (x : Int) (τ : ml_St), (mt_hit h a b F x r → mt_lead h a b ra rb F x τ 232 r = 1) ∧ (¬ mt_hit h a b F x r → mt_lead h a b ra rb F x τ 232 r = τ 232 r) := by
  intro F
  induction F with
  | zero =>
    intro x τ
    unfold mt_lead
    exact ⟨fun c => c.elim, fun _ => by rw [ml_up_k (by omega)]⟩
  | succ F ih =>
    intro x τ
    rw [mt_hit_s]
    by_cases q : h ≤ mt_P h a b x ∧ mt_P h a b x < 3 * h
    · rw [mt_lead_in q]
      obtain ⟨i1, i2⟩ := ih (mt_J h (mt_P h a b x)) (ml_up (ml_up τ 215 27 (w64 (τ 215 27 + mt_R h ra rb x))) 232 (mt_rl h (mt_P h a b x)) 1)
      by_cases z : mt_hit h a b F (mt_J h (mt_P h a b x)) r
      · exact ⟨fun _ => i1 z, fun c => absurd ⟨q, Or.inr z⟩ c⟩
      · by_cases y : mt_rl h (mt_P h a b x) = r
        · refine ⟨fun _ => ?_, fun c => absurd ⟨q, Or.inl y⟩ c⟩
          rw [i2 z, y, ml_up_same]
        · refine ⟨fun c => ?_, fun _ => ?_⟩
          · rcases c.2 with d | d
            · exact absurd d y
            · exact absurd d z
          · rw [i2 z, ml_up_i (Ne.symm y), ml_up_k (by omega)]
    · rw [mt_lead_out q]
      exact ⟨fun c => absurd c.1 q, fun _ => by rw [ml_up_k (by omega)]⟩
def mt_mv (h : Int) (τ : ml_St) (m : Int) (v : Int → Int) : Prop := (∀ e, 0 ≤ e → e < 2 * h → τ 227 (10 * m + e) = v e ∧ τ 228 (10 * m + e) = v (10 + e)) ∧ τ 229 m = v 20 ∧ τ 230 m = v 21 ∧ τ 231 m = v 22
/-- all but the model's weave c, the rails seen and the way gone is as it was -/
def mt_mf (c : Int) (τ τ' : ml_St) : Prop := (∀ k, k ≠ 215 → k ≠ 227 → k ≠ 228 → k ≠ 229 → k ≠ 230 → k ≠ 231 → k ≠ 232 → τ' k = τ k) ∧ (∀ j, j ≠ 27 → τ' 215 j = τ 215 j) ∧ (∀ j, (j < 10 * c ∨ 10 * c + 10 ≤ j) → τ' 227 j = τ 227 j ∧ τ' 228 j = τ 228 j) ∧ (∀ j, j ≠ c → τ' 229 j = τ 229 j ∧ τ' 230 j = τ 230 j ∧ τ' 231 j = τ 231 j)
theorem mt_mf_r {c : Int} {τ : ml_St} : mt_mf c τ τ := ⟨fun _ _ _ _ _ _ _ _ => rfl, fun _ _ => rfl, fun _ _ => ⟨rfl, rfl⟩, fun _ _ => ⟨rfl, rfl, rfl⟩⟩
theorem mt_mf_t {c : Int} {τ τ1 τ2 : ml_St} (a : mt_mf c τ τ1) (b : mt_mf c τ1 τ2) : mt_mf c τ τ2 := by
  obtain ⟨a1, a2, a3, a4⟩ := a
  obtain ⟨b1, b2, b3, b4⟩ := b
  refine ⟨fun k g1 g2 g3 g4 g5 g6 g7 => ?_, fun j g => ?_, fun j g => ?_, fun j g => ?_⟩
  · rw [b1 k g1 g2 g3 g4 g5 g6 g7, a1 k g1 g2 g3 g4 g5 g6 g7]
  · rw [b2 j g, a2 j g]
  · rw [(b3 j g).1, (b3 j g).2, (a3 j g).1, (a3 j g).2]; exact ⟨rfl, rfl⟩
  · rw [(b4 j g).1, (b4 j g).2.1, (b4 j g).2.2, (a4 j g).1, (a4 j g).2.1, (a4 j g).2.2]; exact ⟨rfl, rfl, rfl⟩
theorem mt_mf_row {c i v k : Int} {τ : ml_St} (hk : k = 227 ∨ k = 228) (h1 : 10 * c ≤ i) (h2 : i < 10 * c + 10) : mt_mf c τ (ml_up τ k i v) := by
  refine ⟨fun k' g1 g2 g3 g4 g5 g6 g7 => ml_up_k (by omega), fun j g => by rw [ml_up_k (by omega)], fun j g => ?_, fun j g => ?_⟩
  · rw [ml_up_i (by omega), ml_up_i (by omega)]; exact ⟨rfl, rfl⟩
  · rw [ml_up_k (by omega), ml_up_k (by omega), ml_up_k (by omega)]; exact ⟨rfl, rfl, rfl⟩
theorem mt_mf_fld {c v k : Int} {τ : ml_St} (hk : k = 229 ∨ k = 230 ∨ k = 231) : mt_mf c τ (ml_up τ k c v) := by
  refine ⟨fun k' g1 g2 g3 g4 g5 g6 g7 => ml_up_k (by omega), fun j g => by rw [ml_up_k (by omega)], fun j g => ?_, fun j g => ?_⟩
  · rw [ml_up_k (by omega), ml_up_k (by omega)]; exact ⟨rfl, rfl⟩
  · rw [ml_up_i g, ml_up_i g, ml_up_i g]; exact ⟨rfl, rfl, rfl⟩
theorem mt_mf_seen {c i v : Int} {τ : ml_St} : mt_mf c τ (ml_up τ 232 i v) :=
  ⟨fun k' g1 g2 g3 g4 g5 g6 g7 => ml_up_k g7, fun j g => by rw [ml_up_k (by omega)], fun j g => by rw [ml_up_k (by omega), ml_up_k (by omega)]; exact ⟨rfl, rfl⟩, fun j g => by rw [ml_up_k (by omega), ml_up_k (by omega), ml_up_k (by omega)]; exact ⟨rfl, rfl, rfl⟩⟩
theorem mt_mf_went {c v : Int} {τ : ml_St} : mt_mf c τ (ml_up τ 215 27 v) :=
  ⟨fun k' g1 g2 g3 g4 g5 g6 g7 => ml_up_k g1, fun j g => ml_up_i g, fun j g => by rw [ml_up_k (by omega), ml_up_k (by omega)]; exact ⟨rfl, rfl⟩, fun j g => by rw [ml_up_k (by omega), ml_up_k (by omega), ml_up_k (by omega)]; exact ⟨rfl, rfl, rfl⟩⟩
theorem mt_mf_lead {h c : Int} {a b ra rb : Int → Int} {F : Nat} {x : Int} {τ : ml_St} : mt_mf c τ (mt_lead h a b ra rb F x τ) := by
  obtain ⟨l1, l2, l3⟩ := mt_lead_k (h := h) (a := a) (b := b) (ra := ra) (rb := rb) F x τ
  exact ⟨fun k' g1 g2 g3 g4 g5 g6 g7 => l1 _ g1 g7, l2, fun j g => by rw [l1 227 (by omega) (by omega), l1 228 (by omega) (by omega)]; exact ⟨rfl, rfl⟩, fun j g => by rw [l1 229 (by omega) (by omega), l1 230 (by omega) (by omega), l1 231 (by omega) (by omega)]; exact ⟨rfl, rfl, rfl⟩⟩
theorem mt_mv_f {h c m : Int} {τ τ' : ml_St} {v : Int → Int} (h5 : h ≤ 5) (f : mt_mf c τ τ') (d : m ≠ c) (w : mt_mv h τ m v) : mt_mv h τ' m v := by
  obtain ⟨f1, f2, f3, f4⟩ := f
  obtain ⟨w1, w2⟩ := w
  refine ⟨fun e e0 e1 => ?_, ?_⟩
  · obtain ⟨g1, g2⟩ := f3 (10 * m + e) (by omega)
    rw [g1, g2]; exact w1 e e0 e1
  · obtain ⟨g1, g2, g3⟩ := f4 m d
    rw [g1, g2, g3]; exact w2
theorem mt_rg_bit {h : Int} {a b : Int → Int} (h5 : h ≤ 5) {r o t : Int} (r0 : 0 ≤ r) (r1 : r < h) (e1 : b r = o) (e2 : a (o + h) = t + h) (o0 : 0 ≤ o) (o1 : o < h) (t0 : 0 ≤ t) (t1 : t < h) :
    (t = r → ∀ j, 0 ≤ j → j < h → (mb_t (mt_rg h a b r).1 j = 1 ↔ j = r ∨ j = o)) ∧ (t ≠ r → ∀ o2, b t = o2 → a (o2 + h) = r + h → 0 ≤ o2 → o2 < h → ∀ j, 0 ≤ j → j < h → (mb_t (mt_rg h a b r).1 j = 1 ↔ j = r ∨ j = o ∨ j = t ∨ j = o2)) := by
  have sh : ∀ r : Int, 0 ≤ r → r < h → mb_m 5 (b_shl 1 r) ∧ ∀ j : Int, 0 ≤ j → j < 32 → mb_t (b_shl 1 r) j = if j = r then 1 else 0 := fun r r0 r1 => mb_shl_m (k := 5) (by omega) r0 (by omega)
  obtain ⟨so, so2⟩ := sh o o0 o1
  obtain ⟨st, st2⟩ := sh t t0 t1
  obtain ⟨s2, s22⟩ := mb_or_m (k := 5) (by omega) so st
  obtain ⟨s3, s32⟩ := mb_or_m (k := 5) (a := 0) (by omega) ⟨by omega, by omega⟩ s2
  have zero : ∀ j, mb_t 0 j = 0 := mb_0
  have at1 : a (o + h) - h = t := by omega
  refine ⟨fun c j j0 j1 => ?_, fun c o2 f1 f2 p0 p1 j j0 j1 => ?_⟩
  · have er : (mt_rg h a b r).1 = b_or 0 (b_or (b_shl 1 o) (b_shl 1 t)) := by
      unfold mt_rg mt_r1
      rw [e1, at1, if_pos c]
    rw [er, s32 j j0 (by omega), s22 j j0 (by omega), so2 j j0 (by omega), st2 j j0 (by omega), zero]
    by_cases q1 : j = o <;> by_cases q2 : j = t <;> simp [q1, q2, ← c]
  · have er : (mt_rg h a b r).1 = b_or (b_or 0 (b_or (b_shl 1 o) (b_shl 1 t))) (b_or (b_shl 1 o2) (b_shl 1 r)) := by
      unfold mt_rg mt_r1
      rw [e1, at1, if_neg c, f1, show a (o2 + h) - h = r by omega]
    obtain ⟨so', so2'⟩ := sh o2 p0 p1
    obtain ⟨st', st2'⟩ := sh r r0 r1
    obtain ⟨s2', s22'⟩ := mb_or_m (k := 5) (by omega) so' st'
    obtain ⟨s3', s32'⟩ := mb_or_m (k := 5) (by omega) s3 s2'
    rw [er, s32' j j0 (by omega), s22' j j0 (by omega), so2' j j0 (by omega), st2' j j0 (by omega), s32 j j0 (by omega), s22 j j0 (by omega), so2 j j0 (by omega), st2 j j0 (by omega), zero]
    by_cases q1 : j = o <;> by_cases q2 : j = t <;> by_cases q3 : j = o2 <;> by_cases q4 : j = r <;> simp [q1, q2, q3, q4]
theorem s_ring {Q : ml_St → Prop} {x1 x2 x3 h r m : Int} {τ : ml_St} {a b : Int → Int} (h2 : 2 ≤ h) (h5 : h ≤ 5) (r1 : 0 ≤ x1 ∧ x1 < 64) (r2 : 0 ≤ x2 ∧ x2 < 64) (r3 : 0 ≤ x3 ∧ x3 < 64) (th : τ 215 2 = h) (ha : mt_M h a) (hb : mt_M h b) (wa : mt_mv h τ x1 a) (wb : mt_mv h τ x2 b) (d1 : x1 ≠ x3) (d2 : x2 ≠ x3) (hm : mt_C h a b m) (h0 : 0 ≤ r) (h1 : r < h) (hr : mb_t m r = 0)
    (q : ∀ τ', mt_mf x3 τ τ' → τ' 227 = τ 227 → τ' 228 = τ 228 → τ' 229 x3 = w64 (τ 229 x3 + 1) → τ' 230 x3 = max (τ 230 x3) (mt_rg h a b r).2.1 → τ' 231 x3 = w64 (τ 231 x3 + (mt_rg h a b r).2.1) → (∀ j, 0 ≤ j → j < h → (mb_t (mt_rg h a b r).1 j = 1 → τ' 232 j = 1) ∧ (mb_t (mt_rg h a b r).1 j = 0 → τ' 232 j = τ 232 j)) → Q τ') : f_X12_ring τ x1 x2 x3 r Q := by
  obtain ⟨o, t, e1, e2, o0, o1, t0, t1, n1, n2, e3, e4, z1, z2, c⟩ := mt_rg_C h5 ha hb hm h0 h1 hr
  have hI : ∀ x : Int, -1 ≤ x → x < 1000 → I32 x := fun x _ _ => ⟨by omega, by omega⟩
  have at1 : a (o + h) - h = t := by omega
  obtain ⟨bt1, bt2⟩ := mt_rg_bit (a := a) (b := b) h5 h0 h1 e1 e2 o0 o1 t0 t1
  -- one step
  have one : ∀ (N : Nat) (x o t s : Int) (σ : ml_St), mt_mf x3 τ σ → σ 227 = τ 227 → σ 228 = τ 228 → 0 ≤ x → x < h → b x = o → a (o + h) = t + h → 0 ≤ o → o < h → 0 ≤ t → t < h →
      (∀ y, (t = r → y = 0) → (t ≠ r → y = 1) → f_X12_ring_u10 Q (f_X12_ring_u125 Q) N (ml_up (ml_up σ 232 x 1) 232 o 1) x1 x2 x3 r (mt_r1 h a b 0 s x).2.1 t y) → f_X12_ring_u10 Q (f_X12_ring_u125 Q) (N + 1) σ x1 x2 x3 r s x 1 := by
    intro N x o t s σ f fr1 fr2 g0 g1 f1 f2 p0 p1 q0 q1 k
    obtain ⟨b1, b2⟩ := wb.1 x g0 (by omega)
    obtain ⟨a1, a2⟩ := wa.1 (o + h) (by omega) (by omega)
    unfold f_X12_ring_u10
    refine ⟨fun c => absurd c (by omega), fun _ => ⟨g0, by omega, fun σ2 s2 => ?_⟩⟩
    have u227 : σ2 227 = τ 227 := by rw [s2, ml_up_k (by omega), fr1]
    have u228 : σ2 228 = τ 228 := by rw [s2, ml_up_k (by omega), fr2]
    have u215 : σ2 215 2 = h := by rw [s2, ml_up_k (by omega), f.2.1 2 (by omega), th]
    rw [u227, u228, b1, b2, f1]
    refine ⟨hI _ (by omega) (by omega), hI _ (by omega) (by omega), by omega, by omega, fun _ y7 f7 => ⟨hI _ (by omega) (by omega), hI _ (by omega) (by omega), by omega, by omega, fun _ y11 f11 => ?_⟩⟩
    subst f11
    refine ⟨by omega, by omega, fun σ12 s12 => ?_⟩
    have v227 : σ12 227 = τ 227 := by rw [s12, ml_up_k (by omega), u227]
    have v228 : σ12 228 = τ 228 := by rw [s12, ml_up_k (by omega), u228]
    have v215 : σ12 215 2 = h := by rw [s12, ml_up_k (by omega), u215]
    rw [v215, v227, v228, show 10 * x1 + h + y11 = 10 * x1 + (y11 + h) by omega, a1, a2, f2]
    refine ⟨hI _ (by omega) (by omega), fun _ => ⟨hI _ (by omega) (by omega), hI _ (by omega) (by omega), by omega, by omega, fun _ y19 f19 => ⟨hI _ (by omega) (by omega), fun _ => ⟨hI _ (by omega) (by omega), hI _ (by omega) (by omega), by omega, by omega, fun _ _ => ⟨hI _ (by omega) (by omega), fun y27 f27 => ?_⟩⟩⟩⟩⟩
    have e27 : y27 = t := by omega
    have e19 : y19 = (mt_r1 h a b 0 s x).2.1 := by
      rw [f19, f7]
      unfold mt_r1
      rw [f1, w64_al, w64_ar]
      congr 1
      omega
    rw [e19, e27, s12, s2]
    refine ⟨fun c => k 0 (fun _ => rfl) (fun d => absurd c d), fun c => k 1 (fun d => absurd d c) (fun _ => rfl)⟩
  have e17 : (mt_r1 h a b 0 0 r).2.2 = t := by show a (b r + h) - h = t; rw [e1, at1]
  have sumE : ∀ s m m', (mt_r1 h a b m s t).2.1 = (mt_r1 h a b m' s t).2.1 := fun _ _ _ => rfl
  -- the end
  have fin : ∀ (σ : ml_St), mt_mf x3 τ σ → σ 227 = τ 227 → σ 228 = τ 228 → σ 229 = τ 229 → σ 230 = τ 230 → σ 231 = τ 231 → (∀ j, 0 ≤ j → j < h → (mb_t (mt_rg h a b r).1 j = 1 → σ 232 j = 1) ∧ (mb_t (mt_rg h a b r).1 j = 0 → σ 232 j = τ 232 j)) → f_X12_ring_u125 Q σ x3 (mt_rg h a b r).2.1 := by
    intro σ f fr1 fr2 f229 f230 f231 fs
    unfold f_X12_ring_u125
    refine ⟨r3.1, r3.2, fun _ => ⟨r3.1, r3.2, fun σ3 s3 => ⟨r3.1, r3.2, fun _ => ⟨r3.1, r3.2, fun σ6 s6 => ⟨r3.1, r3.2, fun _ => ?_⟩⟩⟩⟩⟩
    have w231 : σ3 231 x3 = τ 231 x3 := by rw [s3, ml_up_k (by omega), f231]
    have w230 : σ6 230 x3 = τ 230 x3 := by rw [s6, ml_up_k (by omega), s3, ml_up_k (by omega), f230]
    have fin2 : ∀ s2, s2 = max (τ 230 x3) (mt_rg h a b r).2.1 → f_X12_ring_u174 Q σ6 x3 s2 := by
      intro s2 es
      unfold f_X12_ring_u174
      refine ⟨r3.1, r3.2, fun σ7 s7 => ?_⟩
      have u : ∀ k, k ≠ 229 → k ≠ 230 → k ≠ 231 → σ7 k = σ k := fun k g1 g2 g3 => by rw [s7, ml_up_k g2, s6, ml_up_k g3, s3, ml_up_k g1]
      refine q σ7 ?_ ?_ ?_ ?_ ?_ ?_ ?_
      · refine mt_mf_t f ?_
        rw [s7, s6, s3]
        exact mt_mf_t (mt_mf_t (mt_mf_fld (by omega)) (mt_mf_fld (by omega))) (mt_mf_fld (by omega))
      · rw [u 227 (by omega) (by omega) (by omega), fr1]
      · rw [u 228 (by omega) (by omega) (by omega), fr2]
      · rw [s7, ml_up_k (by omega), s6, ml_up_k (by omega), s3, ml_up_same, f229]
      · rw [s7, ml_up_same, es]
      · rw [s7, ml_up_k (by omega), s6, ml_up_same, w231]
      · rw [u 232 (by omega) (by omega) (by omega)]; exact fs
    rw [w230]
    exact ⟨fun c => ⟨r3.1, r3.2, fun _ => fin2 _ (by omega)⟩, fun c => fin2 _ (by omega)⟩
  unfold f_X12_ring f_X12_ring_u0
  refine ⟨3, one 2 r o t 0 τ mt_mf_r rfl rfl h0 h1 e1 e2 o0 o1 t0 t1 (fun y y1 y2 => ?_)⟩
  have fr1 : mt_mf x3 τ (ml_up (ml_up τ 232 r 1) 232 o 1) := mt_mf_t mt_mf_seen mt_mf_seen
  rcases c with c | ⟨nc, o2, f1, f2, p0, p1, k1, k2, k3, f3, f4, yy⟩
  · have er : mt_rg h a b r = mt_r1 h a b 0 0 r := by unfold mt_rg; rw [if_pos (by rw [e17, c])]
    unfold f_X12_ring_u10
    refine ⟨fun _ => ?_, fun d => absurd (y1 c) d⟩
    rw [← er]
    refine fin _ fr1 ?_ ?_ ?_ ?_ ?_ (fun j j0 j1 => ?_)
    iterate 5 (rw [ml_up_k (by omega), ml_up_k (by omega)])
    have g := bt1 c j j0 j1
    by_cases q2 : j = o
    · subst q2
      rw [ml_up_same]
      exact ⟨fun _ => rfl, fun d => absurd (g.2 (Or.inr rfl)) (by omega)⟩
    · rw [ml_up_i q2]
      by_cases q3 : j = r
      · subst q3
        rw [ml_up_same]
        exact ⟨fun _ => rfl, fun d => absurd (g.2 (Or.inl rfl)) (by omega)⟩
      · rw [ml_up_i q3]
        exact ⟨fun d => absurd (g.1 d) (fun z => z.elim q3 q2), fun _ => rfl⟩
  · have er : mt_rg h a b r = mt_r1 h a b (mt_r1 h a b 0 0 r).1 (mt_r1 h a b 0 0 r).2.1 t := by unfold mt_rg; rw [e17, if_neg nc]
    rw [y2 nc]
    refine one 1 t o2 r _ _ fr1 (by rw [ml_up_k (by omega), ml_up_k (by omega)]) (by rw [ml_up_k (by omega), ml_up_k (by omega)]) t0 t1 f1 f2 p0 p1 h0 h1 (fun y' y1' _ => ?_)
    unfold f_X12_ring_u10
    refine ⟨fun _ => ?_, fun d => absurd (y1' rfl) d⟩
    have es : (mt_r1 h a b 0 (mt_r1 h a b 0 0 r).2.1 t).2.1 = (mt_rg h a b r).2.1 := by rw [er]; rfl
    rw [es]
    refine fin _ (mt_mf_t fr1 (mt_mf_t mt_mf_seen mt_mf_seen)) ?_ ?_ ?_ ?_ ?_ (fun j j0 j1 => ?_)
    iterate 5 (rw [ml_up_k (by omega), ml_up_k (by omega), ml_up_k (by omega), ml_up_k (by omega)])
    have g := bt2 nc o2 f1 f2 p0 p1 j j0 j1
    by_cases q1 : j = o2
    · subst q1
      rw [ml_up_same]
      exact ⟨fun _ => rfl, fun d => absurd (g.2 (Or.inr (Or.inr (Or.inr rfl)))) (by omega)⟩
    rw [ml_up_i q1]
    by_cases q2 : j = t
    · subst q2
      rw [ml_up_same]
      exact ⟨fun _ => rfl, fun d => absurd (g.2 (Or.inr (Or.inr (Or.inl rfl)))) (by omega)⟩
    rw [ml_up_i q2]
    by_cases q3 : j = o
    · subst q3
      rw [ml_up_same]
      exact ⟨fun _ => rfl, fun d => absurd (g.2 (Or.inr (Or.inl rfl))) (by omega)⟩
    rw [ml_up_i q3]
    by_cases q4 : j = r
    · subst q4
      rw [ml_up_same]
      exact ⟨fun _ => rfl, fun d => absurd (g.2 (Or.inl rfl)) (by omega)⟩
    rw [ml_up_i q4]
    refine ⟨fun d => absurd (g.1 d) (fun z => ?_), fun _ => rfl⟩
    rcases z with z | z | z | z
    · exact q4 z
    · exact q3 z
    · exact q2 z
    · exact q1 z
