/-! the model: writes, writesAgain, writesOut -/
/-- writing: what may change -/
theorem mt_I2 {x : Int} (h0 : -2000000 ≤ x) (h1 : x < 2000000) : I32 x := ⟨by omega, by omega⟩
def mq_g (σ σ' : ml_St) : Prop := (∀ j, j ≠ 215 → j ≠ 254 → j ≠ 255 → j ≠ 256 → σ' j = σ j) ∧ (∀ b, b ≠ 19 → b ≠ 20 → b ≠ 61 → σ' 215 b = σ 215 b)
/-- the model's sign for the class's -/
def mq_iv (v : Int) : Int := 2 * (v / 2) + (1 - v % 2)
/-- other words' rows stay -/
def mq_ro (w : Int) (σ σ' : ml_St) : Prop := ∀ q, (q < 2000 * w ∨ 2000 * w + 2000 ≤ q) → σ' 254 q = σ 254 q
def mq_rw (w P : Int) (E : Int → Int) (σ : ml_St) : Prop := σ 215 61 = min 2001 P ∧ ∀ j, 0 ≤ j → j < P → j < 2000 → σ 254 (2000 * w + j) = mq_iv (E j)
theorem mq_rw_c {w P : Int} {E E' : Int → Int} {σ σ' : ml_St} (e1 : σ' 215 61 = σ 215 61) (e2 : σ' 254 = σ 254) (ee : ∀ j, 0 ≤ j → j < P → E' j = E j) (r : mq_rw w P E σ) : mq_rw w P E' σ' := ⟨by rw [e1]; exact r.1, fun j j0 j1 j2 => by rw [e2, ee j j0 j1]; exact r.2 j j0 j1 j2⟩
theorem mt_wre_b {s P : Int} {E : Int → Int} {j : Int} (j1 : j < P) : mt_wre s P E j = E j := by
  unfold mt_wre
  by_cases z : j < s
  · rw [if_pos z]
  · rw [if_neg z, Int.emod_eq_of_lt (by omega) (by omega), show s + (j - s) = j by omega]
theorem mq_iv_r {h v : Int} (h5 : h ≤ 5) (v0 : 0 ≤ v) (v1 : v ≤ 2 * (h - 2) + 1) : 0 ≤ mq_iv v ∧ mq_iv v < 128 := by unfold mq_iv; omega
theorem s_writes {Q : ml_St → Prop} {w v P h : Int} {E : Int → Int} {σ : ml_St} (h5 : h ≤ 5) (w0 : 0 ≤ w) (w1 : w < 16) (P0 : 0 ≤ P) (r : mq_rw w P E σ) (mv : mw_v h E) (hv : P < 2000 → v = mq_iv (E P)) (k : ∀ σ', (∀ j, j ≠ 215 → j ≠ 254 → σ' j = σ j) → (∀ b, b ≠ 61 → σ' 215 b = σ 215 b) → mq_ro w σ σ' → mq_rw w (P + 1) E σ' → Q σ') : f_X12_writes σ w v Q := by
  obtain ⟨e, r2⟩ := r
  have U : ∀ σ1 : ml_St, (∀ j, j ≠ 215 → j ≠ 254 → σ1 j = σ j) → σ1 215 = σ 215 → mq_ro w σ σ1 → (∀ j, 0 ≤ j → j < P + 1 → j < 2000 → σ1 254 (2000 * w + j) = mq_iv (E j)) → f_X12_writes_u27 Q σ1 := fun σ1 f1 b1 ro rr => by
    unfold f_X12_writes_u27 f_X12_writes_u51
    rw [b1, e]
    refine fun _ => ⟨fun c _ σ2 s2 => ?_, fun c _ => ⟨mt_I2 (by omega) (by omega), fun σ2 s2 => ?_⟩⟩
    · exact k σ2 (fun j h1 h2 => by rw [s2, ml_up_k h1, f1 j h1 h2]) (fun b hb => by rw [s2, ml_up_i hb, b1]) (fun q hq => by rw [s2, ml_up_k (by omega)]; exact ro q hq) ⟨by rw [s2, ml_up_same]; omega, fun j j0 j1 j2 => by rw [s2, ml_up_k (by omega)]; exact rr j j0 j1 j2⟩
    · exact k σ2 (fun j h1 h2 => by rw [s2, ml_up_k h1, f1 j h1 h2]) (fun b hb => by rw [s2, ml_up_i hb, b1]) (fun q hq => by rw [s2, ml_up_k (by omega)]; exact ro q hq) ⟨by rw [s2, ml_up_same]; omega, fun j j0 j1 j2 => by rw [s2, ml_up_k (by omega)]; exact rr j j0 j1 j2⟩
  unfold f_X12_writes f_X12_writes_u0
  rw [e]
  refine fun _ => ⟨fun c => U σ (fun _ _ _ => rfl) rfl (fun _ _ => rfl) (fun j j0 j1 j2 => r2 j j0 (by omega) j2), fun c => ⟨mt_I2 (by omega) (by omega), fun _ => ⟨mt_I2 (by omega) (by omega), by omega, by omega, fun σ6 s6 => ?_⟩⟩⟩
  have mP : min 2001 P = P := by omega
  have vr := mq_iv_r h5 (mv P).1 (mv P).2
  rw [mP, hv (by omega), mb_i2b_s vr.1 vr.2] at s6
  refine U σ6 (fun j h1 h2 => by rw [s6, ml_up_k h2]) (by rw [s6, ml_up_k (by omega)]) (fun q hq => by rw [s6, ml_up_i (by omega)]) (fun j j0 j1 j2 => ?_)
  rw [s6]
  by_cases z : j = P
  · rw [z, ml_up_same]
  · rw [ml_up_i (by omega)]; exact r2 j j0 (by omega) j2
theorem s_writesAgain {Q : ml_St → Prop} {w s tm A l h : Int} {E : Int → Int} {σ0 : ml_St} (h5 : h ≤ 5) (w0 : 0 ≤ w) (w1 : w < 16) (A0 : 0 ≤ A) (l0 : 0 ≤ l) (es : s = min 2001 A) (r : mq_rw w (A + l) E σ0) (mv : mw_v h E) (t0 : 0 ≤ tm) (t1 : tm < 1000000000) (k : ∀ σ', (∀ j, j ≠ 215 → j ≠ 254 → σ' j = σ0 j) → (∀ b, b ≠ 61 → σ' 215 b = σ0 215 b) → mq_ro w σ0 σ' → mq_rw w (A + tm * l) (mt_wre A (A + l) E) σ' → Q σ') : f_X12_writesAgain σ0 w s tm Q := by
  have eq := r.1
  have mv' : mw_v h (mt_wre A (A + l) E) := fun j => by unfold mt_wre; split <;> exact mv _
  have el : A + l - A = l := by omega
  have O : ∀ (N : Nat) (x : Int) (σ : ml_St), 1 ≤ x → x ≤ max tm 1 → tm ≠ 0 → 2001 - σ 215 61 < N → (∀ j, j ≠ 215 → j ≠ 254 → σ j = σ0 j) → (∀ b, b ≠ 61 → σ 215 b = σ0 215 b) → mq_ro w σ0 σ → mq_rw w (A + x * l) (mt_wre A (A + l) E) σ → f_X12_writesAgain_u19 Q (f_X12_writesAgain_u103 Q) N σ w s tm (min 2001 (A + l)) x := by
    intro N
    induction N with
    | zero => intro x σ x0 x1 tn hN f fb _ h; have := h.1; omega
    | succ N ih =>
      intro x σ x0 x1 tn hN f fb ro hr
      have h := hr.1
      have xl : 1 * l ≤ x * l := Int.mul_le_mul_of_nonneg_right x0 l0
      have xt : x * l ≤ tm * l := Int.mul_le_mul_of_nonneg_right (by omega) l0
      have DN : (∀ j, j < A + tm * l → j < 2000 → j < A + x * l) → min 2001 (A + x * l) = min 2001 (A + tm * l) → f_X12_writesAgain_u103 Q σ := fun d e => by
        unfold f_X12_writesAgain_u103
        exact k σ f fb ro ⟨by rw [h, e], fun j j0 j1 j2 => hr.2 j j0 (d j j1 j2) j2⟩
      unfold f_X12_writesAgain_u19
      rw [h]
      refine ⟨fun c => DN (fun j j1 _ => by rw [show x = tm by omega]; exact j1) (by rw [show x = tm by omega]), fun c => fun _ => ⟨fun c2 => DN (fun j _ _ => by omega) (by omega), fun c2 => ⟨fun c3 => ?_, fun c3 => ⟨(l + 2).toNat, ?_⟩⟩⟩⟩
      · have : l = 0 := by omega
        refine DN (fun j j1 _ => ?_) ?_
        · rw [this, Int.mul_zero] at *; exact j1
        · rw [this]; simp
      have sA : s = A := by omega
      have I : ∀ (M : Nat) (y : Int) (σ : ml_St), s ≤ y → y ≤ s + l → s + l - y < M → (∀ j, j ≠ 215 → j ≠ 254 → σ j = σ0 j) → (∀ b, b ≠ 61 → σ 215 b = σ0 215 b) → mq_ro w σ0 σ → mq_rw w (A + x * l + (y - s)) (mt_wre A (A + l) E) σ → f_X12_writesAgain_u44 Q (f_X12_writesAgain_u97 Q (f_X12_writesAgain_u19 Q (f_X12_writesAgain_u103 Q) N)) M σ w s tm (min 2001 (A + l)) x y := by
        intro M
        induction M with
        | zero => intro y σ y0 y1 hM; omega
        | succ M ihy =>
          intro y σ y0 y1 hM f fb ro hr
          have h := hr.1
          have xs : (x + 1) * l = x * l + l := by rw [Int.add_mul, Int.one_mul]
          have DO : (∀ j, j < A + x * l + l → j < 2000 → j < A + x * l + (y - s)) → min 2001 (A + x * l + (y - s)) = min 2001 (A + x * l + l) → f_X12_writesAgain_u97 Q (f_X12_writesAgain_u19 Q (f_X12_writesAgain_u103 Q) N) σ w s tm (min 2001 (A + l)) x := fun d e => by
            unfold f_X12_writesAgain_u97
            refine ⟨⟨by omega, by omega⟩, fun y1 e1 => ?_⟩
            subst e1
            exact ih (x + 1) σ (by omega) (by omega) tn (by omega) f fb ro ⟨by rw [h, xs]; omega, fun j j0 j1 j2 => hr.2 j j0 (d j (by omega) j2) j2⟩
          have W : ∀ v, (A + x * l + (y - s) < 2000 → v = mq_iv (mt_wre A (A + l) E (A + x * l + (y - s)))) → y < s + l → f_X12_writesAgain_u88 Q (f_X12_writesAgain_u44 Q (f_X12_writesAgain_u97 Q (f_X12_writesAgain_u19 Q (f_X12_writesAgain_u103 Q) N)) M) σ w s tm (min 2001 (A + l)) x y w v := fun v hv yl => by
            unfold f_X12_writesAgain_u88
            refine s_writes h5 w0 w1 (by omega) hr mv' hv (fun σ1 g1 g2 g3 g4 => ⟨mt_I2 (by omega) (by omega), fun y2 e2 => ?_⟩)
            subst e2
            exact ihy (y + 1) σ1 (by omega) (by omega) (by omega) (fun j h1 h2 => by rw [g1 j h1 h2, f j h1 h2]) (fun b hb => by rw [g2 b hb, fb b hb]) (fun q hq => by rw [g3 q hq, ro q hq]) (by rw [show A + x * l + (y + 1 - s) = A + x * l + (y - s) + 1 by omega]; exact g4)
          unfold f_X12_writesAgain_u44
          rw [h]
          refine ⟨fun _ => DO (fun j _ _ => by omega) (by omega), fun q => fun _ => ⟨fun _ => DO (fun j _ _ => by omega) (by omega), fun _ => ⟨fun c5 => W _ (fun z => by omega) (by omega), fun c5 => ⟨mt_I2 (by omega) (by omega), mt_I2 (by omega) (by omega), by omega, by omega, fun _ => W _ (fun z => ?_) (by omega)⟩⟩⟩⟩
          rw [hr.2 y (by omega) (by omega) (by omega), mt_wre_b (by omega)]
          unfold mt_wre
          rw [if_neg (by omega), el, show A + x * l + (y - s) - A = (y - s) + l * x by rw [Int.mul_comm l x]; omega, Int.add_mul_emod_self_left, Int.emod_eq_of_lt (by omega) (by omega), show A + (y - s) = y by omega]
      exact I _ s σ (by omega) (by omega) (by omega) f fb ro (by rw [Int.sub_self, Int.add_zero]; exact hr)
  unfold f_X12_writesAgain f_X12_writesAgain_u0
  rw [eq]
  refine fun _ y2 e2 => ⟨fun tn => ⟨2003, ?_⟩, fun z σ4 s4 => ?_⟩
  · rw [e2]
    exact O 2003 1 σ0 (by omega) (by omega) tn (by omega) (fun _ _ _ => rfl) (fun _ _ => rfl) (fun _ _ => rfl) (by rw [Int.one_mul]; exact mq_rw_c rfl rfl (fun j _ j1 => mt_wre_b j1) r)
  · refine k σ4 (fun j h1 _ => by rw [s4, ml_up_k h1]) (fun b hb => by rw [s4, ml_up_i hb]) (fun q _ => by rw [s4, ml_up_k (by omega)]) ⟨?_, fun j j0 j1 j2 => ?_⟩
    · rw [s4, ml_up_same, z, es, Int.zero_mul]; omega
    · rw [z, Int.zero_mul, Int.add_zero] at j1
      rw [s4, ml_up_k (by omega), r.2 j j0 (by omega) j2, mt_wre_b (by omega)]
/-- what stands below depth d -/
def mq_lo (A S U : Int → Int) (d : Int) : Prop := ∀ k, 0 ≤ k → k < d → 0 ≤ S k ∧ 0 ≤ U k ∧ U (k + 1) = U k + S k ∧ A k = min 2001 (U (k + 1))
theorem s_writesOut {Q : ml_St → Prop} {τ0 : ml_St} {w n h : Int} {cx : Int → Int} {ex : Int → Int → Int} (h2 : 2 ≤ h) (w0 : 0 ≤ w) (w1 : w < 16) (h5 : h ≤ 5) (n0 : 0 ≤ n) (n1 : n ≤ 100) (en : τ0 219 w = n) (tI : ∀ j, 0 ≤ j → j < n → ml_I8 (τ0 218 (100 * w + j))) (g : mt_gr (fun j => τ0 218 (100 * w + j)) n h w (n.toNat + 1) 0 0 1 = 0) (wc : ∀ v, 0 ≤ v → v < w → 0 ≤ cx v ∧ τ0 255 v = min 2001 (cx v) ∧ (∀ j, 0 ≤ j → j < cx v → j < 2000 → τ0 254 (2000 * v + j) = mq_iv (ex v j)) ∧ mw_v h (ex v))
    (k : ∀ τ, mq_g τ0 τ → (∀ v, v ≠ w → τ 255 v = τ0 255 v) → τ 255 w = min 2001 (mt_ctw (fun j => τ0 218 (100 * w + j)) n mt_one cx) → mq_ro w τ0 τ → (∀ j, 0 ≤ j → j < mt_ctw (fun j => τ0 218 (100 * w + j)) n mt_one cx → j < 2000 → τ 254 (2000 * w + j) = mq_iv (mt_wrw (fun j => τ0 218 (100 * w + j)) n cx ex j)) → Q τ) : f_X12_writesOut τ0 w Q := by
  generalize ht : (fun j => τ0 218 (100 * w + j)) = t at *
  have htj : ∀ j, τ0 218 (100 * w + j) = t j := fun j => by rw [← ht]
  have uc := fun (j : Int) (hj : 0 ≤ j) => mt_u_c (t := t) (n := n) (i := j) (fun c => by rw [← htj]; exact tI j hj c)
  have L : ∀ (F N : Nat) (i d need : Int) (S U E : Int → Int) (τ : ml_St), mq_ro w τ0 τ → mw_v h E → mt_wr t n cx ex F i d U (U d + S d) E = mt_wrw t n cx ex → mq_g τ0 τ → τ 255 = τ0 255 → τ 215 20 = w → τ 215 19 = i → 0 ≤ i → i ≤ n → 0 ≤ d → d ≤ 6 → n - i < F → n - i + 1 < N → mq_lo (τ 256) S U d → U 0 = 0 → 0 ≤ U d → 0 ≤ S d → mq_rw w (U d + S d) E τ → mt_gr t n h w F i d need = 0 → mt_ct t n mt_one cx F i d S = mt_ctw t n mt_one cx → f_X12_writesOut_u24 Q (f_X12_writesOut_u254 Q) N τ w d := by
    intro F
    induction F with
    | zero => intro N i d need S U E τ ro mv hy f e255 e20 e19 i0 i1 d0 d6 hF; omega
    | succ F ih =>
      -- behind an item
      have AF : ∀ (N : Nat) (i d : Int) (S U E : Int → Int) (a l : Int) (τ : ml_St), mq_ro w τ0 τ → mw_v h E → mt_wr t n cx ex F (mt_tn t n i) d U (U d + a + mt_tm t n i * l) (mt_wre (U d + a) (U d + a + l) E) = mt_wrw t n cx ex → mq_g τ0 τ → τ 255 = τ0 255 → τ 215 20 = w → τ 215 19 = i → 0 ≤ i → i ≤ n → 0 ≤ d → d ≤ 6 → mt_tf t n i = 0 → n - i < F → n - i + 1 < N → mq_lo (τ 256) S U d → U 0 = 0 → 0 ≤ U d → 0 ≤ a → 0 ≤ l → τ 256 d = min 2001 (U d + a) → mq_rw w (U d + a + l) E τ → mt_gr t n h w F (mt_tn t n i) d 0 = 0 → mt_ct t n mt_one cx F (mt_tn t n i) d (mt_st S d (a + mt_tm t n i * l)) = mt_ctw t n mt_one cx → f_X12_writesOut_u24 Q (f_X12_writesOut_u254 Q) N τ w d := by
        intro N i d S U E a l τ ro mv hy f e255 e20 e19 i0 i1 d0 d6 gt hF hN lo U0 Ud a0 l0 eA q61 g' hx
        have e61 := q61.1
        have mv' : mw_v h (mt_wre (U d + a) (U d + a + l) E) := fun j => by unfold mt_wre; split <;> exact mv _
        have sd : mt_st S d (a + mt_tm t n i * l) d = a + mt_tm t n i * l := if_pos rfl
        have rt := mt_tm_r (t := t) (n := n) (i := i) i0 gt
        have rn := mt_tn_r (t := t) (n := n) (i := i) i1
        have lo' : ∀ A : Int → Int, (∀ k, k < d → A k = τ 256 k) → mq_lo A (mt_st S d (a + mt_tm t n i * l)) U d := fun A hA k k0 k1 => by unfold mt_st; rw [if_neg (by omega), hA k k1]; exact lo k k0 k1
        have tl := Int.mul_nonneg rt.1 l0
        by_cases s : i < n ∧ t i = 42
        · obtain ⟨N, rfl⟩ : ∃ N', N = N' + 1 := ⟨N - 1, by omega⟩
          obtain ⟨m, m1, m2, q1, q2, q3, q4, q5⟩ := mt_tf_0 i0 gt s
          have u42 : mt_u t n i = 42 := by
            have := uc i i0
            have e : mt_c t n i = 42 := by unfold mt_c; rw [if_pos s.1]; exact s.2
            omega
          have f218 : ∀ j, τ 218 (100 * w + j) = t j := fun j => by rw [f.1 218 (by omega) (by omega) (by omega) (by omega), htj]
          have f219 : τ 219 w = n := by rw [f.1 219 (by omega) (by omega) (by omega) (by omega), en]
          unfold f_X12_writesOut_u24
          rw [e19, f219]
          refine fun _ => ⟨w0, w1, fun _ => ⟨fun c => absurd c (by omega), fun _ => ?_⟩⟩
          refine s_read w0 w1 i0 n1 e19 e20 f219 ?_
          rw [show (fun j => τ 218 (100 * w + j)) = t by funext j; exact f218 j, u42, e19]
          refine fun _ _ => ⟨mt_I (by omega) (by omega), fun σ7 g7 => ⟨fun c => absurd rfl c, fun _ => ?_⟩⟩
          have k7 : ∀ j, j ≠ 215 → σ7 j = τ j := fun j hj => by rw [g7, ml_up_k hj]
          have b7 : ∀ b, b ≠ 19 → σ7 215 b = τ 215 b := fun b hb => by rw [g7, ml_up_i hb]
          refine s_readNumber (i := i + 1) (m := m) w0 w1 (by omega) n1 (by rw [b7 20 (by omega), e20]) (by rw [g7, ml_up_same]) (by rw [k7 219 (by omega), f219]) m2 (by omega) (fun j j0 j1 => by rw [k7 218 (by omega), f218, ← htj]; exact tI j j0 j1) (fun k hk => by rw [k7 218 (by omega), f218]; exact q4 k hk) (fun hk => by rw [k7 218 (by omega), f218]; exact q5 hk) ?_
          rw [show (fun j => σ7 218 (100 * w + j)) = t by funext j; rw [k7 218 (by omega)]; exact f218 j, ← q3, g7, ml_up_up, ← q1]
          have k8 : ∀ j, j ≠ 215 → ml_up τ 215 19 (mt_tn t n i) j = τ j := fun j hj => ml_up_k hj
          refine fun _ => ⟨d0, by omega, ?_⟩
          rw [k8 256 (by omega)]
          refine fun _ => s_writesAgain (A := U d + a) (l := l) h5 w0 w1 (by omega) l0 eA (mq_rw_c (by rw [ml_up_i (by omega)]) (k8 254 (by omega)) (fun _ _ _ => rfl) q61) mv rt.1 rt.2 (fun σ23 h1 h2 h4 h3 => ?_)
          unfold f_X12_writesOut_u251
          have k9 : ∀ j, j ≠ 215 → j ≠ 254 → σ23 j = τ j := fun j p1 p2 => by rw [h1 j p1 p2, k8 j p1]
          refine ih N (mt_tn t n i) d 0 _ U _ σ23 (fun q hq => by rw [h4 q hq, k8 254 (by omega)]; exact ro q hq) mv' (by rw [sd, ← Int.add_assoc]; exact hy) ⟨fun j p1 p2 p3 p4 => by rw [k9 j p1 p2, f.1 j p1 p2 p3 p4], fun b p1 p2 p3 => by rw [h2 b p3, ml_up_i p1, f.2 b p1 p2 p3]⟩ (by rw [k9 255 (by omega) (by omega), e255]) (by rw [h2 20 (by omega), ml_up_i (by omega), e20]) (by rw [h2 19 (by omega), ml_up_same]) (by omega) rn.2 d0 d6 (by omega) (by omega) (lo' _ (fun k _ => by rw [k9 256 (by omega) (by omega)])) U0 Ud ?_ ?_ g' hx
          · rw [sd]; omega
          · rw [sd, ← Int.add_assoc]; exact h3
        · have q1 : mt_tn t n i = i := by unfold mt_tn; rw [if_neg s]
          have q3 : mt_tm t n i = 1 := by unfold mt_tm; rw [if_neg s]
          rw [q1] at g' hx hy
          refine ih N i d 0 _ U _ τ ro mv' (by rw [sd, ← Int.add_assoc]; exact hy) f e255 e20 e19 i0 i1 d0 d6 hF hN (lo' _ (fun k _ => rfl)) U0 Ud ?_ ?_ g' hx
          · rw [sd]; omega
          · rw [sd, q3, Int.one_mul, ← Int.add_assoc]; exact mq_rw_c rfl rfl (fun j _ j1 => mt_wre_b j1) q61
      intro N i d need S U E τ ro mv hy f e255 e20 e19 i0 i1 d0 d6 hF hN lo U0 Ud Sd q61 g hx
      have e61 := q61.1
      obtain ⟨N, rfl⟩ : ∃ N', N = N' + 1 := ⟨N - 1, by omega⟩
      have f218 : ∀ j, τ 218 (100 * w + j) = t j := fun j => by rw [f.1 218 (by omega) (by omega) (by omega) (by omega), htj]
      have f219 : τ 219 w = n := by rw [f.1 219 (by omega) (by omega) (by omega) (by omega), en]
      unfold mt_ct at hx
      unfold mt_wr at hy
      unfold f_X12_writesOut_u24
      rw [e19, f219]
      refine fun _ => ⟨w0, w1, fun _ => ⟨fun c => ?_, fun c => ?_⟩⟩
      · rw [if_pos c] at hx hy
        rcases mt_gr_c n0 i0 g with z | z | z | z | z
        · have d00 : d = 0 := z.2.2
          subst d00
          unfold f_X12_writesOut_u254
          refine fun _ => ⟨w0, w1, fun σ2 g2 => k σ2 ⟨fun j p1 p2 p3 p4 => by rw [g2, ml_up_k p3, f.1 j p1 p2 p3 p4], fun b p1 p2 p3 => by rw [g2, ml_up_k (by omega), f.2 b p1 p2 p3]⟩ (fun v hv => by rw [g2, ml_up_i hv, e255]) ?_ (fun q hq => by rw [g2, ml_up_k (by omega)]; exact ro q hq) (fun j j0 j1 j2 => ?_)⟩
          · rw [g2, ml_up_same, e61, ← hx, U0, Int.zero_add]
          · rw [← hx] at j1
            rw [g2, ml_up_k (by omega), ← hy]; exact q61.2 j j0 (by omega) j2
        all_goals omega
      rw [if_neg c] at hx hy
      refine s_read w0 w1 i0 n1 e19 e20 f219 ?_
      have ui := uc i i0
      have ci : mt_c t n i = t i := by unfold mt_c; rw [if_pos (by omega)]
      have uti : (t i = 40 ∨ t i = 41 ∨ t i = 120 ∨ t i = 117 ∨ (65 ≤ t i ∧ t i < 81)) ∧ mt_u t n i = t i := by
        rcases mt_gr_c n0 i0 g with z | z | z | z | z <;> constructor <;> omega
      obtain ⟨tk, eu⟩ := uti
      rw [show (fun j => τ 218 (100 * w + j)) = t by funext j; exact f218 j, eu, e19]
      refine fun _ _ => ⟨mt_I (by omega) (by omega), fun σ7 g7 => ?_⟩
      have k7 : ∀ j, j ≠ 215 → σ7 j = τ j := fun j hj => by rw [g7, ml_up_k hj]
      have b7 : ∀ b, b ≠ 19 → σ7 215 b = τ 215 b := fun b hb => by rw [g7, ml_up_i hb]
      have r7 : σ7 215 19 = i + 1 := by rw [g7, ml_up_same]
      have q7 : σ7 215 61 = min 2001 (U d + S d) := by rw [b7 61 (by omega), e61]
      have r7w : mq_rw w (U d + S d) E σ7 := mq_rw_c (b7 61 (by omega)) (k7 254 (by omega)) (fun _ _ _ => rfl) q61
      have ro7 : mq_ro w τ0 σ7 := fun q hq => by rw [k7 254 (by omega)]; exact ro q hq
      have f7 : mq_g τ0 σ7 := ⟨fun j p1 p2 p3 p4 => by rw [k7 j p1, f.1 j p1 p2 p3 p4], fun b p1 p2 p3 => by rw [b7 b p1, f.2 b p1 p2 p3]⟩
      have lo7 : ∀ A : Int → Int, (∀ k, k < d → A k = τ 256 k) → mq_lo A S U d := fun A hA k k0 k1 => by rw [hA k k1]; exact lo k k0 k1
      have SGN : (t i = 120 ∨ t i = 117) → f_X12_writesOut_u136 Q (f_X12_writesOut_u24 Q (f_X12_writesOut_u254 Q) N) σ7 w d (t i) := by
        intro hc
        rcases mt_gr_c n0 i0 g with z | z | z | z | z
        · omega
        · omega
        · omega
        · obtain ⟨z1, z2, z3, z4, z5, z6, z7, z8⟩ := z
          rw [if_neg (by omega), if_neg (by omega), if_pos hc] at hx hy
          have mvS : mw_v h (mt_wra (U d + S d) E (fun _ => mt_wsg t i)) := fun j => by
            unfold mt_wra
            split
            · exact mv j
            · show 0 ≤ mt_wsg t i ∧ mt_wsg t i ≤ _; unfold mt_wsg; split <;> omega
          unfold f_X12_writesOut_u136
          rw [q7]
          refine fun _ => ⟨d0, by omega, fun σ2 g2 => ?_⟩
          have k2 : ∀ j, j ≠ 256 → σ2 j = σ7 j := fun j hj => by rw [g2, ml_up_k hj]
          refine s_read (i := i + 1) w0 w1 (by omega) n1 (by rw [k2 215 (by omega), r7]) (by rw [k2 215 (by omega), b7 20 (by omega), e20]) (by rw [k2 219 (by omega), k7 219 (by omega), f219]) ?_
          have ud := uc (i + 1) (by omega)
          have cd : mt_c t n (i + 1) = t (i + 1) := by unfold mt_c; rw [if_pos (by omega)]
          have ed : mt_u t n (i + 1) = t (i + 1) := by omega
          rw [show (fun j => σ2 218 (100 * w + j)) = t by funext j; rw [k2 218 (by omega), k7 218 (by omega)]; exact f218 j, ed]
          have W : ∀ v c, 0 ≤ v → v ≤ 100 → (c = 0 ∨ c = 1) → v + c = mq_iv (mt_wsg t i) → f_X12_writesOut_u168 Q (f_X12_writesOut_u24 Q (f_X12_writesOut_u254 Q) N) σ2 w d w v c := fun v c v0 v1 c01 vc => by
            unfold f_X12_writesOut_u168
            refine ⟨mt_I (by omega) (by omega), s_writes (P := U d + S d) (E := mt_wra (U d + S d) E (fun _ => mt_wsg t i)) h5 w0 w1 (by omega) (mq_rw_c (by rw [k2 215 (by omega)]) (k2 254 (by omega)) (fun j _ j1 => by unfold mt_wra; rw [if_pos j1]) r7w) mvS (fun _ => by unfold mt_wra; rw [if_neg (by omega)]; exact vc) (fun σ3 h1 h2 h4 h3 => ?_)⟩
            rw [h2 19 (by omega), k2 215 (by omega), r7]
            refine fun _ => ⟨mt_I (by omega) (by omega), fun σ5 s5 => ?_⟩
            unfold f_X12_writesOut_u251
            have k5 : ∀ j, j ≠ 215 → j ≠ 254 → j ≠ 256 → σ5 j = τ j := fun j p1 p2 p3 => by rw [s5, ml_up_k p1, h1 j p1 p2, k2 j p3, k7 j p1]
            have b5 : ∀ b, b ≠ 19 → b ≠ 61 → σ5 215 b = τ 215 b := fun b p1 p2 => by rw [s5, ml_up_i p1, h2 b p2, k2 215 (by omega), b7 b p1]
            have e256 : σ5 256 = ml_up σ7 256 d (min 2001 (U d + S d)) 256 := by rw [s5, ml_up_k (by omega), h1 256 (by omega) (by omega), g2]
            have one : mt_one (t i) = 1 := rfl
            refine AF N (i + 2) d S U _ (S d) 1 σ5 (fun q hq => by rw [s5, ml_up_k (by omega), h4 q hq, k2 254 (by omega)]; exact ro7 q hq) mvS hy ⟨fun j p1 p2 p3 p4 => by rw [k5 j p1 p2 p4, f.1 j p1 p2 p3 p4], fun b p1 p2 p3 => by rw [b5 b p1 p3, f.2 b p1 p2 p3]⟩ (by rw [k5 255 (by omega) (by omega) (by omega), e255]) (by rw [b5 20 (by omega) (by omega), e20]) (by rw [s5, ml_up_same]; omega) (by omega) (by omega) d0 d6 z7 (by omega) (by omega) (lo7 _ (fun k hk => by rw [e256, ml_up_i (by omega), k7 256 (by omega)])) U0 Ud Sd (by omega) (by rw [e256, ml_up_same]) (mq_rw_c (by rw [s5, ml_up_i (by omega)]) (by rw [s5, ml_up_k (by omega)]) (fun _ _ _ => rfl) h3) z8 (by rw [one] at hx; exact hx)
          exact fun _ => ⟨mt_I (by omega) (by omega), mt_I (by omega) (by omega), fun y => W _ 0 (by omega) (by omega) (Or.inl rfl) (by unfold mq_iv mt_wsg; rw [if_pos (by omega)]; omega), fun y => W _ 1 (by omega) (by omega) (Or.inr rfl) (by unfold mq_iv mt_wsg; rw [if_neg (by omega)]; omega)⟩
        · omega
      refine ⟨fun _ => ⟨fun c40 => ⟨fun c41 => ⟨fun c120 => SGN (Or.inl c120), fun c120 => ⟨fun c117 => ?_, fun c117 => SGN (Or.inr c117)⟩⟩, fun c41 => ?_⟩, fun c40 => ?_⟩, fun c42 => absurd c42 (by omega)⟩
      · -- a letter
        rcases mt_gr_c n0 i0 g with z | z | z | z | z
        · omega
        · omega
        · omega
        · omega
        · obtain ⟨z1, z2, z3, z4, z5, z6⟩ := z
          rw [if_neg (by omega), if_neg (by omega), if_neg (by omega)] at hx hy
          obtain ⟨w1', w2', w3', w4'⟩ := wc (t i - 65) (by omega) z4
          have mvL : mw_v h (mt_wra (U d + S d) E (ex (t i - 65))) := fun j => by
            unfold mt_wra
            split
            · exact mv j
            · exact w4' _
          rw [q7]
          refine fun _ => ⟨d0, by omega, fun σ14 g14 => ⟨2010, ?_⟩⟩
          have I : ∀ (M : Nat) (y : Int) (σ : ml_St), 0 ≤ y → y ≤ min 2001 (cx (t i - 65)) → min 2001 (cx (t i - 65)) - y < M → (∀ j, j ≠ 215 → j ≠ 254 → σ j = σ14 j) → (∀ b, b ≠ 61 → σ 215 b = σ14 215 b) → mq_ro w τ0 σ → mq_rw w (U d + S d + y) (mt_wra (U d + S d) E (ex (t i - 65))) σ → f_X12_writesOut_u198 Q (f_X12_writesOut_u251 Q (f_X12_writesOut_u24 Q (f_X12_writesOut_u254 Q) N)) M σ w d (t i) y := by
            intro M
            induction M with
            | zero => intro y σ y0 y1 hM; omega
            | succ M ihy =>
              intro y σ y0 y1 hM p1 p2 p4 p5
              have p3 := p5.1
              have v255 : σ 255 (t i - 65) = min 2001 (cx (t i - 65)) := by rw [p1 255 (by omega) (by omega), g14, ml_up_k (by omega), k7 255 (by omega), e255, w2']
              have W : ∀ v, (U d + S d + y < 2000 → v = mq_iv (ex (t i - 65) y)) → y < min 2001 (cx (t i - 65)) → f_X12_writesOut_u242 Q (f_X12_writesOut_u198 Q (f_X12_writesOut_u251 Q (f_X12_writesOut_u24 Q (f_X12_writesOut_u254 Q) N)) M) σ w d (t i) y w v := fun v hv yl => by
                unfold f_X12_writesOut_u242
                refine s_writes h5 w0 w1 (by omega) p5 mvL (fun z => by unfold mt_wra; rw [if_neg (by omega), show U d + S d + y - (U d + S d) = y by omega]; exact hv z) (fun σ1 h1 h2 h4 h3 => ⟨mt_I2 (by omega) (by omega), fun y2 e2 => ?_⟩)
                subst e2
                exact ihy (y + 1) σ1 (by omega) (by omega) (by omega) (fun j a b => by rw [h1 j a b, p1 j a b]) (fun b hb => by rw [h2 b hb, p2 b hb]) (fun q hq => by rw [h4 q hq, p4 q hq]) (by rw [← Int.add_assoc]; exact h3)
              unfold f_X12_writesOut_u198
              rw [v255]
              refine ⟨mt_I (by omega) (by omega), by omega, by omega, fun _ => ⟨fun q => ?_, fun q => ⟨fun _ => W _ (fun z => by omega) (by omega), fun _ => ⟨mt_I (by omega) (by omega), mt_I2 (by omega) (by omega), mt_I2 (by omega) (by omega), by omega, by omega, fun _ => W _ (fun z => by rw [p4 _ (by omega)]; exact w3' y y0 (by omega) (by omega)) (by omega)⟩⟩⟩⟩
              unfold f_X12_writesOut_u251
              have kk : ∀ j, j ≠ 215 → j ≠ 254 → j ≠ 256 → σ j = τ j := fun j a b c => by rw [p1 j a b, g14, ml_up_k c, k7 j a]
              have bb : ∀ b, b ≠ 19 → b ≠ 61 → σ 215 b = τ 215 b := fun b h1 h2 => by rw [p2 b h2, g14, ml_up_k (by omega), b7 b h1]
              have e256 : σ 256 = ml_up σ7 256 d (min 2001 (U d + S d)) 256 := by rw [p1 256 (by omega) (by omega), g14]
              exact AF N (i + 1) d S U _ (S d) (cx (t i - 65)) σ p4 mvL hy ⟨fun j p1 p2 p3 p4 => by rw [kk j p1 p2 p4, f.1 j p1 p2 p3 p4], fun b p1 p2 p3 => by rw [bb b p1 p3, f.2 b p1 p2 p3]⟩ (by rw [kk 255 (by omega) (by omega) (by omega), e255]) (by rw [bb 20 (by omega) (by omega), e20]) (by rw [p2 19 (by omega), g14, ml_up_k (by omega), r7]) (by omega) (by omega) d0 d6 z5 (by omega) (by omega) (lo7 _ (fun k hk => by rw [e256, ml_up_i (by omega), k7 256 (by omega)])) U0 Ud Sd w1' (by rw [e256, ml_up_same]) ⟨by rw [p3]; omega, fun j j0 j1 j2 => p5.2 j j0 (by omega) j2⟩ z6 hx
          exact I 2010 0 σ14 (by omega) (by omega) (by omega) (fun _ _ _ => rfl) (fun _ _ => rfl) (fun q hq => by rw [g14, ml_up_k (by omega)]; exact ro7 q hq) (by rw [Int.add_zero]; exact mq_rw_c (by rw [g14, ml_up_k (by omega)]) (by rw [g14, ml_up_k (by omega)]) (fun j _ j1 => by unfold mt_wra; rw [if_pos j1]) r7w)
      · -- a closing
        rcases mt_gr_c n0 i0 g with z | z | z | z | z
        · omega
        · omega
        · obtain ⟨z1, z2, z3, z4, z5, z6⟩ := z
          rw [if_neg (by omega), if_pos c41] at hx hy
          refine ⟨mt_I (by omega) (by omega), fun y27 e27 => ?_⟩
          have e27 : y27 = d - 1 := by omega
          subst e27
          unfold f_X12_writesOut_u251
          obtain ⟨p1, p2, p3, p4⟩ := lo (d - 1) (by omega) (by omega)
          rw [show d - 1 + 1 = d by omega] at p3 p4
          exact AF N (i + 1) (d - 1) S U E (S (d - 1)) (S d) σ7 ro7 mv (by rw [← p3]; rw [show U d + S d - U d = S d by omega] at hy; exact hy) f7 (by rw [k7 255 (by omega), e255]) (by rw [b7 20 (by omega), e20]) r7 (by omega) (by omega) (by omega) (by omega) z5 (by omega) (by omega) (fun k k0 k1 => by rw [k7 256 (by omega)]; exact lo k k0 (by omega)) U0 p2 p1 Sd (by rw [k7 256 (by omega), p4, p3]) (by rw [← p3]; exact r7w) z6 hx
        · omega
        · omega
      · -- an opening
        rcases mt_gr_c n0 i0 g with z | z | z | z | z
        · omega
        · obtain ⟨z1, z2, z3, z4⟩ := z
          rw [if_pos c40] at hx hy
          have u1 : mt_st U (d + 1) (U d + S d) (d + 1) = U d + S d := if_pos rfl
          have u2 : mt_st S (d + 1) 0 (d + 1) = 0 := if_pos rfl
          rw [q7]
          refine fun _ => ⟨d0, by omega, fun σ17 g17 => ⟨mt_I (by omega) (by omega), fun y18 e18 => ?_⟩⟩
          subst e18
          have k17 : ∀ j, j ≠ 256 → σ17 j = σ7 j := fun j hj => by rw [g17, ml_up_k hj]
          rw [k17 215 (by omega), q7]
          refine fun _ => ⟨by omega, by omega, fun σ20 g20 => ?_⟩
          unfold f_X12_writesOut_u251
          have kk : ∀ j, j ≠ 256 → σ20 j = σ7 j := fun j hj => by rw [g20, ml_up_k hj, k17 j hj]
          refine ih N (i + 1) (d + 1) 1 _ (mt_st U (d + 1) (U d + S d)) E σ20 (fun q hq => by rw [kk 254 (by omega)]; exact ro7 q hq) mv (by rw [u1, u2, Int.add_zero]; exact hy) ⟨fun j p1 p2 p3 p4 => by rw [kk j p4, f7.1 j p1 p2 p3 p4], fun b p1 p2 p3 => by rw [kk 215 (by omega), f7.2 b p1 p2 p3]⟩ (by rw [kk 255 (by omega), k7 255 (by omega), e255]) (by rw [kk 215 (by omega), b7 20 (by omega), e20]) (by rw [kk 215 (by omega), r7]) (by omega) (by omega) (by omega) (by omega) (by omega) (by omega) (fun k k0 k1 => ?_) ?_ ?_ ?_ ?_ z4 hx
          · unfold mt_st
            rw [if_neg (show ¬ k = d + 1 by omega), if_neg (show ¬ k = d + 1 by omega)]
            by_cases q : k = d
            · subst q
              rw [if_pos rfl, g20, ml_up_i (by omega), g17, ml_up_same]
              exact ⟨Sd, Ud, rfl, rfl⟩
            · rw [if_neg (show ¬ k + 1 = d + 1 by omega), g20, ml_up_i (by omega), g17, ml_up_i q, k7 256 (by omega)]
              exact lo k k0 (by omega)
          · unfold mt_st; rw [if_neg (by omega)]; exact U0
          · unfold mt_st; rw [if_pos rfl]; omega
          · unfold mt_st; rw [if_pos rfl]; omega
          · rw [u1, u2, Int.add_zero]; exact mq_rw_c (by rw [kk 215 (by omega)]) (kk 254 (by omega)) (fun _ _ _ => rfl) r7w
        · omega
        · omega
        · omega
  unfold f_X12_writesOut f_X12_writesOut_u0
  intro σ1 g1 σ2 g2 σ3 g3
  refine ⟨by omega, by omega, fun σ4 g4 => ⟨n.toNat + 3, ?_⟩⟩
  have b4 : ∀ b, b ≠ 19 → b ≠ 20 → b ≠ 61 → σ4 215 b = τ0 215 b := fun b h1 h2 h3 => by rw [g4, ml_up_k (by omega), g3, ml_up_i h3, g2, ml_up_i h1, g1, ml_up_i h2]
  have k4 : ∀ j, j ≠ 215 → j ≠ 256 → σ4 j = τ0 j := fun j h1 h2 => by rw [g4, ml_up_k h2, g3, ml_up_k h1, g2, ml_up_k h1, g1, ml_up_k h1]
  refine L (n.toNat + 1) _ 0 0 1 (fun _ => 0) (fun _ => 0) (fun _ => 0) σ4 (fun q _ => by rw [k4 254 (by omega) (by omega)]) (fun j => by show (0 : Int) ≤ 0 ∧ (0 : Int) ≤ _; omega) rfl ⟨fun j p1 p2 p3 p4 => k4 j p1 p4, b4⟩ (k4 255 (by omega) (by omega)) ?_ ?_ (by omega) n0 (by omega) (by omega) (by omega) (by omega) (fun k k0 k1 => absurd k1 (by omega)) rfl (by omega) (by omega) ?_ g rfl
  · rw [g4, ml_up_k (by omega), g3, ml_up_i (by omega), g2, ml_up_i (by omega), g1, ml_up_same]
  · rw [g4, ml_up_k (by omega), g3, ml_up_i (by omega), g2, ml_up_same]
  · exact ⟨by rw [g4, ml_up_k (by omega), g3, ml_up_same]; omega, fun j j0 j1 _ => absurd j1 (by omega)⟩
