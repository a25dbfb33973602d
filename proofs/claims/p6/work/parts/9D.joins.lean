/-! the model: joinsAll, made, many -/
theorem mq_20 {h C : Int} {v : Int → Int} (cv : mt_cv h v C) (m : v 23 ≤ mt_mst) : 0 ≤ v 20 ∧ v 20 ≤ 5000000000000 := by
  have hc : C ≤ mt_mst := (mt_cv_23 cv).1 m
  have C0 := cv.1
  obtain ⟨l1, l2, l3⟩ := cv.2.2.2.2 hc
  unfold mt_mst at hc
  refine ⟨l1, ?_⟩
  by_cases z : C = 0
  · have := (l2 z).2.1
    have z0 : mt_str h 20 = 0 := by unfold mt_str; rw [if_neg (by omega)]
    omega
  · have := l3 (by omega); omega
/-- one letter of one place more -/
theorem mt_bf_s {h L P P' frm i : Int} {lt S S' nx nx' : Int → Int → Int} (b : mt_bf h L lt S nx P frm i) (f0 : 0 ≤ frm) (fP : frm < P) (i0 : 0 ≤ i) (iL : i < L) (t1 : ∀ q, 0 ≤ q → q < P → mt_eq h (S' q) (S q)) (tw : ∀ q, 0 ≤ q → q < P → mq_w (S' q) = mq_w (S q)) (n1 : ∀ p a, 0 ≤ p → 0 ≤ a → a < L → mt_bl p a frm i → nx' p a = nx p a) (g1 : 1 ≤ nx' frm i) (g2 : nx' frm i < P') (g3 : mt_eq h (S' (nx' frm i)) (mt_both h (mq_w (S frm)) (lt i))) (t3 : P' = P ∨ (P' = P + 1 ∧ nx' frm i = P)) (t4 : ∀ p, 0 ≤ p → p < P' → mt_M h (S' p)) (t5 : ∀ p q, 1 ≤ p → p < q → q < P' → ¬ mt_eq h (S' p) (S' q)) : mt_bf h L lt S' nx' P' frm (i + 1) := by
  obtain ⟨y1, y2, y3, y4, y5, y6⟩ := b
  have tr : ∀ {f g k : Int → Int}, mt_eq h f g → mt_eq h g k → mt_eq h f k := fun e e2 x x0 x1 => (e x x0 x1).trans (e2 x x0 x1)
  have bl : ∀ p a, mt_bl p a frm (i + 1) → (p = frm ∧ a = i) ∨ mt_bl p a frm i := fun p a z => by unfold mt_bl at *; omega
  have bu : ∀ p a, mt_bl p a frm i → mt_bl p a frm (i + 1) := fun p a z => by unfold mt_bl at *; omega
  refine ⟨by omega, tr (t1 0 (by omega) (by omega)) y2, t4, t5, fun p a p0 a0 a1 z => ?_, fun q q1 q2 => ?_⟩
  · rcases bl p a z with ⟨zp, za⟩ | z
    · subst zp; subst za
      refine ⟨g1, g2, by rw [tw p p0 fP]; exact g3, fun q q1 q2 => ?_⟩
      obtain ⟨p', a', p0', p1', a0', a1', x', e'⟩ := y6 q q1 (by omega)
      exact ⟨p', a', p0', a0', a1', x', by rw [n1 p' a' p0' a0' a1' x']; exact e'⟩
    · have pP : p < P := by unfold mt_bl at z; omega
      obtain ⟨w1, w2, w3, w4⟩ := y5 p a p0 a0 a1 z
      rw [n1 p a p0 a0 a1 z, tw p p0 pP]
      refine ⟨w1, by omega, tr (t1 _ (by omega) w2) w3, fun q q1 q2 => ?_⟩
      obtain ⟨p', a', p0', a0', a1', x', e'⟩ := w4 q q1 q2
      exact ⟨p', a', p0', a0', a1', x', by rw [n1 p' a' p0' a0' a1' (by unfold mt_bl at *; omega)]; exact e'⟩
  · rcases Int.lt_or_le q P with z | z
    · obtain ⟨p', a', p0', p1', a0', a1', x', e'⟩ := y6 q q1 z
      exact ⟨p', a', p0', p1', a0', a1', bu _ _ x', by rw [n1 p' a' p0' a0' a1' x']; exact e'⟩
    · exact ⟨frm, i, f0, by omega, i0, iL, by unfold mt_bl; omega, by omega⟩
theorem mt_bf_n {h L P frm : Int} {lt S nx : Int → Int → Int} (b : mt_bf h L lt S nx P frm L) : mt_bf h L lt S nx P (frm + 1) 0 := by
  obtain ⟨y1, y2, y3, y4, y5, y6⟩ := b
  refine ⟨y1, y2, y3, y4, fun p a p0 a0 a1 z => y5 p a p0 a0 a1 (by unfold mt_bl at *; omega), fun q q1 q2 => ?_⟩
  obtain ⟨p, a, p0, p1, a0, a1, x, e⟩ := y6 q q1 q2
  exact ⟨p, a, p0, p1, a0, a1, by unfold mt_bl at *; omega, e⟩
/-- the model's states as places: the straight lane is place 0 -/
def ms_S (h : Int) (F : Nat → Int → Int) (p : Int) : Int → Int := if p = 0 then mt_str h else F (p - 1).toNat
def ms_n (σ : ml_St) (p a : Int) : Int := if p = 0 then σ 242 a + 1 else σ 240 (6 * (p - 1) + a) + 1
def ms_B (h nl : Int) (lt : Int → Int → Int) (F : Nat → Int → Int) (c : Nat) (frm i : Int) (σ : ml_St) : Prop := mt_bf h nl lt (ms_S h F) (ms_n σ) (c + 1) frm i
def ms_O (h nl q : Int) (lt : Int → Int → Int) (F : Nat → Int → Int) (σ : ml_St) : Prop := ∀ (s : Nat) (l : Int), 0 ≤ l → l < nl → 6 * s + l < q → σ 241 (6 * s + l) = min (mt_both h (mq_w (F s)) (lt l) 20) 4
theorem ms_S_0 {h : Int} {F : Nat → Int → Int} : ms_S h F 0 = mt_str h := if_pos rfl
theorem ms_S_s {h : Int} {F : Nat → Int → Int} (k : Nat) : ms_S h F ((k : Int) + 1) = F k := by unfold ms_S; rw [if_neg (by omega), show ((k : Int) + 1 - 1).toNat = k by omega]
theorem ms_S_p {h : Int} {F : Nat → Int → Int} {p : Int} (p1 : 1 ≤ p) : ms_S h F p = F (p - 1).toNat := if_neg (by omega)
/-- the matchings of states, as those of places -/
theorem ms_S_t {h : Int} {cl : Int → Int} {F : Nat → Int → Int} {c : Nat} {σ : ml_St} (h5 : h ≤ 5) (s : mq_s h cl F c σ) : (∀ p, 0 ≤ p → p < (c : Int) + 1 → mt_M h (ms_S h F p)) ∧ ∀ p q, 1 ≤ p → p < q → q < (c : Int) + 1 → ¬ mt_eq h (ms_S h F p) (ms_S h F q) := by
  refine ⟨fun p p0 p1 => ?_, fun p q p0 pq q1 => ?_⟩
  · by_cases z : p = 0
    · rw [z, ms_S_0]; exact mt_str_M h5
    · rw [ms_S_p (by omega)]; exact (s.2.1 _ (by omega)).1
  · rw [ms_S_p p0, ms_S_p (by omega)]
    exact s.2.2 _ _ (by omega) (by omega)
theorem ms_B_s {h nl frm i : Int} {lt : Int → Int → Int} {cl f : Int → Int} {F F' : Nat → Int → Int} {c c' n : Nat} {σ σ' τ : ml_St} (h5 : h ≤ 5) (b : ms_B h nl lt F c frm i σ) (s' : mq_s h cl F' c' τ) (f0 : 0 ≤ frm) (fP : frm < (c : Int) + 1) (i0 : 0 ≤ i) (iL : i < nl) (ff : ∀ i, i < c → F' i = F i) (nn : n < c') (en : mt_eq h (F' n) f) (ef : mt_eq h f (mt_both h (mq_w (ms_S h F frm)) (lt i))) (nc : (n < c ∧ c' = c) ∨ (n = c ∧ c' = c + 1)) (n1 : ∀ p a, 0 ≤ p → 0 ≤ a → a < nl → mt_bl p a frm i → ms_n σ' p a = ms_n σ p a) (n2 : ms_n σ' frm i = n + 1) : ms_B h nl lt F' c' frm (i + 1) σ' := by
  have tr : ∀ {f g k : Int → Int}, mt_eq h f g → mt_eq h g k → mt_eq h f k := fun e e2 x x0 x1 => (e x x0 x1).trans (e2 x x0 x1)
  obtain ⟨t4, t5⟩ := ms_S_t h5 s'
  have es : ∀ q, 0 ≤ q → q < (c : Int) + 1 → ms_S h F' q = ms_S h F q := fun q q0 q1 => by
    by_cases z : q = 0
    · rw [z, ms_S_0, ms_S_0]
    · rw [ms_S_p (by omega), ms_S_p (by omega)]; exact ff _ (by omega)
  refine mt_bf_s (P' := (c' : Int) + 1) b f0 fP i0 iL (fun q q0 q1 => by rw [es q q0 q1]; exact fun _ _ _ => rfl) (fun q q0 q1 => by rw [es q q0 q1]) n1 (by rw [n2]; omega) (by rw [n2]; omega) ?_ (by rw [n2]; omega) t4 t5
  rw [n2, ms_S_s]
  exact tr en ef
def mq_n (nl c q : Int) (σ : ml_St) : Prop := ∀ s l, 0 ≤ s → 0 ≤ l → l < nl → 6 * s + l < q → 0 ≤ σ 240 (6 * s + l) ∧ σ 240 (6 * s + l) < c ∧ 0 ≤ σ 241 (6 * s + l) ∧ σ 241 (6 * s + l) ≤ 4
def mq_1 (nl c : Int) (σ : ml_St) : Prop := ∀ l, 0 ≤ l → l < nl → 0 ≤ σ 242 l ∧ σ 242 l < c
theorem s_few {Q : Int → ml_St → Prop} {x : Int} {σ : ml_St} (x0 : 0 ≤ x) (k : Q (min x 4) σ) : f_X12_few σ x Q := by
  unfold f_X12_few f_X12_few_u0 f_X12_few_u14
  refine ⟨fun c => ?_, fun c => ?_⟩
  · rw [mb_l2i2 (by omega) (by omega)]
    rw [show min x 4 = x by omega] at k; exact k
  · rw [show min x 4 = 4 by omega] at k; exact k
/-- what the searches stand on -/
def mq_J (h told ts cap : Int) (tb cl pr sz : Int → Int) (T : Int → Int → Int) (τ0 : ml_St) (nl : Int) (F : Nat → Int → Int) (c : Nat) (σ : ml_St) : Prop := mq_L h told ts cap tb cl pr sz T τ0 nl σ ∧ mq_s h cl F c σ ∧ mq_1 nl c σ ∧ mq_n nl c (6 * c) σ
theorem s_joinsAll {Q : ml_St → Prop} {h told ts cap nl : Int} {tb cl pr sz : Int → Int} {T : Int → Int → Int} {τ0 σ0 : ml_St} (i : mq_L h told ts cap tb cl pr sz T τ0 nl σ0) (k : ∀ σ F c, mq_J h told ts cap tb cl pr sz T τ0 nl F c σ → ms_B h nl (fun a => mt_mk h T sz (σ0 237 a)) F c (c + 1) 0 σ → ms_O h nl (6 * c) (fun a => mt_mk h T sz (σ0 237 a)) F σ → σ 237 = σ0 237 → Q σ) : f_X12_joinsAll σ0 Q := by
  have h2 := i.1.1.2.2.1
  have h5 := i.1.1.2.2.2.1
  have nl0 := i.2.2.2.1
  have nl6 := i.2.2.2.2.1
  have hc := i.1.2.2.1.2.2.2
  -- how stateOf is used
  have ST : ∀ (Q' : Int → ml_St → Prop) (m : Int) (f : Int → Int) (F : Nat → Int → Int) (c : Nat) (σ : ml_St), mq_L h told ts cap tb cl pr sz T τ0 nl σ → mq_s h cl F c σ → 0 ≤ m → m < 64 → mt_M h f → (∀ e, 0 ≤ e → e < 2 * h → σ 227 (10 * m + e) = f e) → (∀ σ' (n c' : Nat) (F' : Nat → Int → Int), mq_L h told ts cap tb cl pr sz T τ0 nl σ' → mq_s h cl F' c' σ' → c ≤ c' → (∀ i, i < c → F' i = F i) → n < c' → (∀ j, j ≠ 215 → j ≠ 234 → j ≠ 238 → j ≠ 239 → j ≠ 243 → σ' j = σ j) → I32 n → mt_eq h (F' n) f → ((n < c ∧ c' = c) ∨ (n = c ∧ c' = c + 1)) → Q' n σ') → f_X12_stateOf σ m Q' := fun Q' m f F c σ L s m0 m1 hf ra k' => by
    refine s_stateOf h2 h5 ⟨m0, m1⟩ L.1.1.1 hf ra hc L.1.2.2.1.2.2.1 s (fun σ' n c' F' g gb s' cc ff nn eq iI nc => k' σ' n c' F' (mq_L_k (mt_kq_o (fun j hj => g j (by omega) (by omega) (by omega) (by omega) (by omega)) (fun b b1 b2 => gb b (by omega))) (gb 38 (by omega)) (g 237 (by omega) (by omega) (by omega) (by omega) (by omega)) L) s' cc ff nn g iI eq nc)
  -- the second loop
  have S2 : ∀ (N : Nat) (s : Int) (F : Nat → Int → Int) (c : Nat) (σ : ml_St), 0 ≤ s → s ≤ c → 946 - s < N → mq_L h told ts cap tb cl pr sz T τ0 nl σ → mq_s h cl F c σ → mq_1 nl c σ → mq_n nl c (6 * s) σ → ms_B h nl (fun a => mt_mk h T sz (σ0 237 a)) F c (s + 1) 0 σ → ms_O h nl (6 * s) (fun a => mt_mk h T sz (σ0 237 a)) F σ → σ 237 = σ0 237 → f_X12_joinsAll_u39 Q (f_X12_joinsAll_u166 Q) N σ s := by
    intro N
    induction N with
    | zero => intro s F c σ s0 s1 hN L S; have := mq_s_le h2 h5 S; omega
    | succ N ih =>
      intro s F c σ s0 s1 hN L S f1 fn hB hO hl
      unfold f_X12_joinsAll_u39
      rw [S.1]
      refine fun _ => ⟨fun q => ?_, fun q => ⟨7, ?_⟩⟩
      · unfold f_X12_joinsAll_u166
        have : s = c := by omega
        rw [this] at fn hB hO
        exact k σ F c ⟨L, S, f1, fn⟩ hB hO hl
      -- the letters of a state
      have LT : ∀ (M : Nat) (l : Int) (F : Nat → Int → Int) (c : Nat) (σ : ml_St), 0 ≤ l → l ≤ nl → nl - l < M → s < c → mq_L h told ts cap tb cl pr sz T τ0 nl σ → mq_s h cl F c σ → mq_1 nl c σ → mq_n nl c (6 * s + l) σ → ms_B h nl (fun a => mt_mk h T sz (σ0 237 a)) F c (s + 1) l σ → ms_O h nl (6 * s + l) (fun a => mt_mk h T sz (σ0 237 a)) F σ → σ 237 = σ0 237 → f_X12_joinsAll_u49 Q (f_X12_joinsAll_u160 Q (f_X12_joinsAll_u39 Q (f_X12_joinsAll_u166 Q) N)) M σ s l := by
        intro M
        induction M with
        | zero => intro l F c σ l0 l1 hM; omega
        | succ M ihl =>
          intro l F c σ l0 l1 hM sc L S f1 fn hB hO hl
          have c945 := mq_s_le h2 h5 S
          unfold f_X12_joinsAll_u49
          rw [L.2.2.1]
          refine fun _ => ⟨fun q => ?_, fun q => s_straight h2 h5 ⟨by omega, by omega⟩ L.1.1.1 (fun σ3 p3 w3 => ⟨11, ?_⟩)⟩
          · unfold f_X12_joinsAll_u160
            refine ⟨mt_I (by omega) (by omega), fun y e => ?_⟩
            subst e
            have : l = nl := by omega
            subst this
            exact ih (s + 1) F c σ (by omega) (by omega) (by omega) L S f1 (fun s' l' a b d e => fn s' l' a b d (by omega)) (mt_bf_n hB) (fun s' l' b d e => hO s' l' b d (by omega)) hl
          have lt : l < nl := by omega
          have sN : ((s.toNat : Nat) : Int) = s := by omega
          obtain ⟨y1, y2, y3, y4⟩ := S.2.1 s.toNat (by omega)
          rw [sN] at y2 y3 y4
          -- the pairs are copied
          have CP : ∀ (N' : Nat) (e : Int) (τ : ml_St), 0 ≤ e → e ≤ 2 * h → 2 * h - e < N' → mt_mf 61 σ τ → (∀ e', 0 ≤ e' → e' < e → τ 227 (610 + e') = F s.toNat e') → (∀ e', 0 ≤ e' → e' < 2 * h → τ 228 (610 + e') = 0) → τ 229 61 = 0 → τ 230 61 = 0 → τ 231 61 = 0 → f_X12_joinsAll_u65 Q (f_X12_joinsAll_u102 Q (f_X12_joinsAll_u49 Q (f_X12_joinsAll_u160 Q (f_X12_joinsAll_u39 Q (f_X12_joinsAll_u166 Q) N)) M)) N' τ s l e := by
            intro N'
            induction N' with
            | zero => intro e τ e0 e1 hN'; omega
            | succ N' ihe =>
              intro e τ e0 e1 hN' g hi z1 z2 z3 z4
              have g239 := g.1 239 (by omega) (by omega) (by omega) (by omega) (by omega) (by omega) (by omega)
              unfold f_X12_joinsAll_u65
              rw [g.2.1 2 (by omega), L.1.1.1]
              refine fun _ => ⟨mt_I (by omega) (by omega), fun q => ?_, fun q => ⟨mt_I (by omega) (by omega), mt_I (by omega) (by omega), mt_I (by omega) (by omega), by omega, by omega, fun _ => ⟨by omega, by omega, fun σ8 s8 => ⟨mt_I (by omega) (by omega), fun y ey => ?_⟩⟩⟩⟩
              · -- joined with the letter
                have ee : e = 2 * h := by omega
                subst ee
                have L' := mq_L_mf (by omega) g L
                have e237 : τ 237 = σ 237 := g.1 237 (by omega) (by omega) (by omega) (by omega) (by omega) (by omega) (by omega)
                have md := L.2.2.2.2.2 l l0 lt
                have cv := (IM_cv L.1 md.1 md.2.1).1
                have b20 := mq_20 cv md.2.2
                obtain ⟨g1, g2, g3, g4, g5⟩ := IM_w L'.1 md
                have wM : mt_M h (mq_w (F s.toNat)) := mt_eq_M (mq_w_e h5) y1
                have w61 : mt_mv h τ 61 (mq_w (F s.toNat)) := by
                  refine ⟨fun e' e0' e1' => ⟨?_, ?_⟩, ?_, ?_, ?_⟩
                  · rw [show (10 : Int) * 61 + e' = 610 + e' by omega, hi e' e0' e1', mq_w_e h5 e' e0' e1']
                  · rw [show (10 : Int) * 61 + e' = 610 + e' by omega, z1 e' e0' e1']; unfold mq_w; rw [if_neg (by omega)]
                  · rw [z2]; unfold mq_w; rw [if_neg (by omega)]
                  · rw [z3]; unfold mq_w; rw [if_neg (by omega)]
                  · rw [z4]; unfold mq_w; rw [if_neg (by omega)]
                unfold f_X12_joinsAll_u102
                rw [e237]
                refine ⟨by omega, by omega, fun _ => s_lays h2 h5 ⟨by omega, by omega⟩ ⟨g4, by omega⟩ ⟨by omega, by omega⟩ L'.1.1.1 wM g2 w61 g1 (by omega) (by omega) (fun σ2 p2 w2 => ⟨mt_I (by omega) (by omega), mt_I (by omega) (by omega), ?_⟩)⟩
                have L2 := mq_L_mf (by omega) p2 L'
                have S2' : mq_s h cl F c σ2 := mq_s_k (by rw [p2.2.1 39 (by omega), g.2.1 39 (by omega)]) (by rw [p2.1 238 (by omega) (by omega) (by omega) (by omega) (by omega) (by omega) (by omega), g.1 238 (by omega) (by omega) (by omega) (by omega) (by omega) (by omega) (by omega)]) (by rw [p2.1 239 (by omega) (by omega) (by omega) (by omega) (by omega) (by omega) (by omega), g239]) (by rw [p2.1 243 (by omega) (by omega) (by omega) (by omega) (by omega) (by omega) (by omega), g.1 243 (by omega) (by omega) (by omega) (by omega) (by omega) (by omega) (by omega)]) S
                have uM := mt_both_M h5 wM g2
                have u20 : 0 ≤ mt_both h (mq_w (F s.toNat)) (mt_mk h T sz (σ 237 l)) 20 := by
                  have w20 : mq_w (F s.toNat) 20 = 0 := by unfold mq_w; rw [if_neg (by omega)]
                  have := mt_rs_lb (h := h) (a := mq_w (F s.toNat)) (b := mt_mk h T sz (σ 237 l)) (by omega) (by omega) h.toNat (by omega)
                  rw [mt_both_20]; omega
                generalize hu : mt_both h (mq_w (F s.toNat)) (mt_mk h T sz (σ 237 l)) = u at *
                refine ST _ 62 u F c σ2 L2 S2' (by omega) (by omega) uM (fun e e0 e1 => (w2.1 e e0 e1).1) (fun σ5 n c' F' L5 S5 cc ff nn g5' iI enq nc _ => ⟨by omega, by omega, fun σ6 s6 => ⟨mt_I (by omega) (by omega), mt_I (by omega) (by omega), by omega, by omega, fun _ => ?_⟩⟩)
                have c'945 := mq_s_le h2 h5 S5
                have e229 : σ6 229 62 = u 20 := by rw [s6, ml_up_k (by omega), g5' 229 (by omega) (by omega) (by omega) (by omega) (by omega), w2.2.1]
                rw [e229]
                refine s_few u20 (fun _ => ⟨by omega, by omega, fun σ11 s11 => ⟨mt_I (by omega) (by omega), fun y ey => ?_⟩⟩)
                subst ey
                have j11 : ∀ j, j ≠ 240 → j ≠ 241 → σ11 j = σ5 j := fun j h1 h2 => by rw [s11, ml_up_k h2, s6, ml_up_k h1]
                have oth : ∀ j, j = 240 ∨ j = 241 ∨ j = 242 → σ5 j = σ j := fun j hj => by rw [g5' j (by omega) (by omega) (by omega) (by omega) (by omega), p2.1 j (by omega) (by omega) (by omega) (by omega) (by omega) (by omega) (by omega), g.1 j (by omega) (by omega) (by omega) (by omega) (by omega) (by omega) (by omega)]
                refine ihl (l + 1) F' c' σ11 (by omega) (by omega) (by omega) (by omega) (mq_L_k (mt_kq_o (fun j hj => j11 j (by omega) (by omega)) (fun b _ _ => by rw [j11 215 (by omega) (by omega)])) (by rw [j11 215 (by omega) (by omega)]) (j11 237 (by omega) (by omega)) L5) (mq_s_k (by rw [j11 215 (by omega) (by omega)]) (j11 238 (by omega) (by omega)) (j11 239 (by omega) (by omega)) (j11 243 (by omega) (by omega)) S5) (fun l' a b => ?_) (fun s' l' a b d e => ?_) ?_ ?_ ?_
                · rw [j11 242 (by omega) (by omega), oth 242 (by omega)]
                  have := f1 l' a b; omega
                · have e240 : σ11 240 = σ6 240 := by rw [s11, ml_up_k (by omega)]
                  rw [e240]
                  by_cases z : 6 * s' + l' = 6 * s + l
                  · rw [z, s6, ml_up_same, s11, ml_up_same]; omega
                  · have o := fn s' l' a b d (by omega)
                    rw [s11, ml_up_i z, s6, ml_up_i z, ml_up_k (by omega), oth 240 (by omega), oth 241 (by omega)]
                    omega
                · -- the places
                  have v240 : ∀ q, q ≠ 6 * s + l → σ11 240 q = σ 240 q := fun q hq => by rw [s11, ml_up_k (by omega), s6, ml_up_i hq, oth 240 (by omega)]
                  have w240 : σ11 240 (6 * s + l) = n := by rw [s11, ml_up_k (by omega), s6, ml_up_same]
                  have v242 : σ11 242 = σ 242 := by rw [j11 242 (by omega) (by omega), oth 242 (by omega)]
                  refine ms_B_s h5 hB S5 (by omega) (by omega) l0 lt ff nn enq ?_ nc (fun p a p0 a0 a1 z => ?_) ?_
                  · rw [ms_S_p (by omega), show (s + 1 - 1).toNat = s.toNat by omega, ← hu, hl]
                    exact fun _ _ _ => rfl
                  · unfold ms_n
                    by_cases z0 : p = 0
                    · rw [if_pos z0, if_pos z0, v242]
                    · rw [if_neg z0, if_neg z0, v240 _ (by unfold mt_bl at z; omega)]
                  · unfold ms_n
                    rw [if_neg (by omega), show 6 * (s + 1 - 1) + l = 6 * s + l by omega, w240]
                · intro s' l' b d e
                  by_cases z : 6 * (s' : Int) + l' = 6 * s + l
                  · have zl : l' = l := by omega
                    have zs : s' = s.toNat := by omega
                    rw [z, s11, ml_up_same, zl, zs, ff s.toNat (by omega), ← hu, hl]
                  · have o := hO s' l' b d (by omega)
                    rw [s11, ml_up_i z, s6, ml_up_k (by omega), oth 241 (by omega), ff s' (by omega)]
                    exact o
                · rw [j11 237 (by omega) (by omega), g5' 237 (by omega) (by omega) (by omega) (by omega) (by omega), p2.1 237 (by omega) (by omega) (by omega) (by omega) (by omega) (by omega) (by omega), e237, hl]
              · have a239 : τ 239 (10 * s + e) = F s.toNat e := by rw [g239]; exact y3 e e0 (by omega)
                rw [a239] at s8
                subst ey
                refine ihe (e + 1) σ8 (by omega) (by omega) (by omega) ⟨fun j h1 h2 h3 h4 h5 h6 h7 => by rw [s8, ml_up_k h2]; exact g.1 j h1 h2 h3 h4 h5 h6 h7, fun j hj => by rw [s8, ml_up_k (by omega)]; exact g.2.1 j hj, fun j hj => ?_, fun j hj => ?_⟩ (fun e' e0' e1' => ?_) (fun e' e0' e1' => by rw [s8, ml_up_k (by omega)]; exact z1 e' e0' e1') (by rw [s8, ml_up_k (by omega)]; exact z2) (by rw [s8, ml_up_k (by omega)]; exact z3) (by rw [s8, ml_up_k (by omega)]; exact z4)
                · rw [s8, ml_up_i (by omega), ml_up_k (by omega)]; exact g.2.2.1 j hj
                · rw [s8, ml_up_k (by omega), ml_up_k (by omega), ml_up_k (by omega)]; exact g.2.2.2 j hj
                · rw [s8]
                  by_cases z : e' = e
                  · rw [z, ml_up_same]
                  · rw [ml_up_i (by omega)]; exact hi e' e0' (by omega)
          have zz : ∀ i, 20 ≤ i → mt_str h i = 0 := fun i hi => by unfold mt_str; rw [if_neg (by omega)]
          exact CP 11 0 σ3 (by omega) (by omega) (by omega) p3 (fun e' a b => absurd b (by omega)) (fun e' a b => by rw [show (610 : Int) + e' = 10 * 61 + e' by omega, (w3.1 e' a b).2, (mt_str_e h5 a b).2]) (by rw [w3.2.1, zz 20 (by omega)]) (by rw [w3.2.2.1, zz 21 (by omega)]) (by rw [w3.2.2.2, zz 22 (by omega)])
      exact LT 7 0 F c σ (by omega) nl0 (by omega) (by omega) L S f1 (fun s' l' a b d e => fn s' l' a b d (by omega)) hB (fun s' l' b d e => hO s' l' b d (by omega)) hl
  -- the first loop
  have S1 : ∀ (N : Nat) (l : Int) (F : Nat → Int → Int) (c : Nat) (σ : ml_St), 0 ≤ l → l ≤ nl → nl - l < N → mq_L h told ts cap tb cl pr sz T τ0 nl σ → mq_s h cl F c σ → mq_1 l c σ → ms_B h nl (fun a => mt_mk h T sz (σ0 237 a)) F c 0 l σ → σ 237 = σ0 237 → f_X12_joinsAll_u7 Q (f_X12_joinsAll_u37 Q) N σ l := by
    intro N
    induction N with
    | zero => intro l F c σ l0 l1 hN; omega
    | succ N ih =>
      intro l F c σ l0 l1 hN L S f1 hB hl
      unfold f_X12_joinsAll_u7
      rw [L.2.2.1]
      refine fun _ => ⟨fun q => ?_, fun q => ⟨l0, by omega, fun _ => ?_⟩⟩
      · unfold f_X12_joinsAll_u37
        have : l = nl := by omega
        subst this
        exact ⟨947, S2 947 0 F c σ (by omega) (by omega) (by omega) L S f1 (fun s' l' a b d e => absurd e (by omega)) (mt_bf_n hB) (fun s' l' b d e => absurd e (by omega)) hl⟩
      have md := L.2.2.2.2.2 l l0 (by omega)
      obtain ⟨g1, g2, g3, g4, g5⟩ := IM_w L.1 md
      refine ST _ (σ 237 l) _ F c σ L S g4 (by omega) g2 (fun e e0 e1 => (g1.1 e e0 e1).1) (fun σ4 n c' F' L4 S4 cc ff nn g4' iI enq nc _ => ⟨l0, by omega, fun σ5 s5 => ⟨mt_I (by omega) (by omega), fun y ey => ?_⟩⟩)
      subst ey
      have j5 : ∀ j, j ≠ 242 → σ5 j = σ4 j := fun j h1 => by rw [s5, ml_up_k h1]
      refine ih (l + 1) F' c' σ5 (by omega) (by omega) (by omega) (mq_L_k (mt_kq_o (fun j hj => j5 j (by omega)) (fun b _ _ => by rw [j5 215 (by omega)])) (by rw [j5 215 (by omega)]) (j5 237 (by omega)) L4) (mq_s_k (by rw [j5 215 (by omega)]) (j5 238 (by omega)) (j5 239 (by omega)) (j5 243 (by omega)) S4) (fun l' a b => ?_) ?_ ?_
      · rw [s5]
        by_cases z : l' = l
        · rw [z, ml_up_same]; omega
        · rw [ml_up_i z, g4' 242 (by omega) (by omega) (by omega) (by omega) (by omega)]
          have := f1 l' a (by omega); omega
      · refine ms_B_s (f := mt_mk h T sz (σ 237 l)) h5 hB S4 (by omega) (by omega) l0 (by omega) ff nn enq ?_ nc (fun p a p0 a0 a1 z => ?_) ?_
        · rw [ms_S_0, hl] at *
          have i1 := mt_weq_e (mt_id h2 h5 g2 g3)
          have i2 := (mt_both_p (b := mt_mk h T sz (σ0 237 l)) (by omega) h5 (mt_str_M h5) g2 (fun e e0 e1 => (mq_w_e h5 e e0 e1).symm : mt_eq h (mt_str h) (mq_w (mt_str h))) (by unfold mt_str mq_w; rw [if_neg (by omega), if_neg (by omega)])).1
          exact fun e e0 e1 => by rw [← i2 e e0 e1]; exact (i1 e e0 e1).symm
        · have p0' : p = 0 := by unfold mt_bl at z; omega
          unfold ms_n
          rw [if_pos p0', if_pos p0', s5, ml_up_i (by unfold mt_bl at z; omega), g4' 242 (by omega) (by omega) (by omega) (by omega) (by omega)]
        · unfold ms_n
          rw [if_pos rfl, s5, ml_up_same]
      · rw [j5 237 (by omega), g4' 237 (by omega) (by omega) (by omega) (by omega) (by omega), hl]
  unfold f_X12_joinsAll f_X12_joinsAll_u0
  intro σ1 s1
  refine ⟨7, S1 7 0 (fun _ _ => 0) 0 σ1 (by omega) nl0 (by omega) (mq_L_k (mt_kq_o (fun j hj => by rw [s1, ml_up_k (by omega)]) (fun b b1 b2 => by rw [s1, ml_up_i (by omega)])) (by rw [s1, ml_up_i (by omega)]) (by rw [s1, ml_up_k (by omega)]) i) ⟨by rw [s1, ml_up_same]; rfl, fun i hi => absurd hi (by omega), fun i j _ hj => absurd hj (by omega)⟩ (fun l a b => absurd b (by omega)) ⟨by omega, by rw [ms_S_0]; exact fun _ _ _ => rfl, fun p p0 p1 => by rw [show p = 0 by omega, ms_S_0]; exact mt_str_M h5, fun p q p0 pq q1 => by omega, fun p a p0 a0 a1 z => by unfold mt_bl at z; omega, fun q q1 q2 => by omega⟩ (by rw [s1, ml_up_k (by omega)])⟩
/-- the model's places: what they are -/
def ms_M (h told : Int) (mk : Int → Int → Int) (set : Int) (L : Int) (l : Int → Int) (F : Nat → Int → Int) (c : Nat) (nx : Int → Int → Int) : Prop := ic_L set told L l ∧ mt_bf h L (fun a => mk (l a)) (ms_S h F) nx (c + 1) (c + 1) 0
theorem m_made {Q : Int → ml_St → Prop} {h told ts cap set : Int} {tb cl pr sz : Int → Int} {T : Int → Int → Int} {τ : ml_St} (i : IM h told ts cap tb cl pr sz T τ) (k0 : ¬ mt_ls told (mt_mk h T sz) set → ∀ σ, IM h told ts cap tb cl pr sz T σ → (∀ j, j < 215 → σ j = τ j) → Q (-1) σ) (k : mt_ls told (mt_mk h T sz) set → ∀ σ L l F (c : Nat) nx, IM h told ts cap tb cl pr sz T σ → (∀ j, j < 215 → σ j = τ j) → ms_M h told (mt_mk h T sz) set L l F c nx → Q c σ) : f_X12_made τ set Q := by
  unfold f_X12_made f_X12_made_u0
  refine s_isLetters i (fun no σ i' f _ => ⟨fun z => absurd rfl z, fun _ => k0 no σ i' f⟩) (fun ls σ nl L hl _ => ⟨fun _ => s_joinsAll L (fun σ3 F c J hB hO h7 => ?_), fun z => absurd z (by omega)⟩)
  rw [J.2.1.1]
  exact fun _ => k ls σ3 nl (σ 237) F c _ J.1.1 J.1.2.1 ⟨hl, hB⟩
