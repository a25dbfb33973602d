def mt_one (_ : Int) : Int := 1
def mt_mst : Int := 1000000000000
theorem s_makes {Q : ml_St → Prop} {τ0 : ml_St} {w n h : Int} {mk : Int → Int → Int} {T : Int → Int} (w0 : 0 ≤ w) (w1 : w < 16) (h2 : 2 ≤ h) (h5 : h ≤ 5) (n0 : 0 ≤ n) (n1 : n ≤ 100) (th : τ0 215 2 = h) (en : τ0 219 w = n) (tI : ∀ j, 0 ≤ j → j < n → ml_I8 (τ0 218 (100 * w + j))) (g : mt_gr (fun j => τ0 218 (100 * w + j)) n h w (n.toNat + 1) 0 0 1 = 0)
    (wm : ∀ v, 0 ≤ v → v < w → mt_M h (mk v) ∧ mt_ok h (mk v) ∧ 0 ≤ T v ∧ ∃ x, mt_mv h τ0 v x ∧ mt_M h x ∧ (T v ≤ mt_mst → mt_weq h x (mk v)))
    (k : ∀ τ r, mt_fp 19 (fun m => m = w ∨ 16 ≤ m) τ0 (ml_up τ 215 20 (τ0 215 20)) → τ 215 20 = w → mt_mv h τ w r → mt_M h r → (mt_ctw (fun j => τ0 218 (100 * w + j)) n mt_one T ≤ mt_mst → mt_weq h r (mt_wo (fun j => τ0 218 (100 * w + j)) n h mk)) → Q τ) : f_X12_makes τ0 w Q := by
  generalize ht : (fun j => τ0 218 (100 * w + j)) = t at *
  have htj : ∀ j, τ0 218 (100 * w + j) = t j := fun j => by rw [← ht]
  have uc := fun (j : Int) (hj : 0 ≤ j) => mt_u_c (t := t) (n := n) (i := j) (fun c => by rw [← htj]; exact tI j hj c)
  -- τ1: the store with the word in readWord
  generalize hτ1 : ml_up τ0 215 20 w = τ1
  have q1 : ∀ j, j ≠ 215 → τ1 j = τ0 j := fun j hj => by rw [← hτ1, ml_up_k hj]
  have q2 : τ1 215 2 = h := by rw [← hτ1, ml_up_i (by omega), th]
  have q20 : τ1 215 20 = w := by rw [← hτ1, ml_up_same]
  have back : ∀ τ, mt_fp 19 (fun m => m = w ∨ 16 ≤ m) τ1 τ → mt_fp 19 (fun m => m = w ∨ 16 ≤ m) τ0 (ml_up τ 215 20 (τ0 215 20)) := by
    intro τ f
    refine ⟨fun k h1 h3 h4 h6 h7 h8 h9 => by rw [ml_up_k h1, f.1 k h1 h3 h4 h6 h7 h8 h9, q1 k h1], fun b hb hb2 => ?_, fun m hm => ?_⟩
    · by_cases c : b = 20
      · rw [c, ml_up_same]
      · rw [ml_up_i c, f.2.1 b hb hb2, ← hτ1, ml_up_i c]
    · have := f.2.2 m hm
      rw [q1 227 (by omega), q1 228 (by omega), q1 229 (by omega), q1 230 (by omega), q1 231 (by omega)] at this
      rw [ml_up_k (show (227:Int) ≠ 215 by omega), ml_up_k (show (228:Int) ≠ 215 by omega), ml_up_k (show (229:Int) ≠ 215 by omega), ml_up_k (show (230:Int) ≠ 215 by omega), ml_up_k (show (231:Int) ≠ 215 by omega)]
      exact this
  -- the end
  have KE : ∀ (τ : ml_St) (a l : Int → Int), mt_fp 19 (fun m => m = w ∨ 16 ≤ m) τ1 τ → mt_mv h τ 16 a → mt_mv h τ 17 l → mt_M h a → mt_M h l → (mt_ctw t n mt_one T ≤ mt_mst → mt_weq h (mt_both h a l) (mt_wo t n h mk)) → f_X12_makes_u224 Q τ w := by
    intro τ a l f wa wl ha hl hq
    have th1 : τ 215 2 = h := by rw [f.2.1 2 (by omega) (by omega), q2]
    unfold f_X12_makes_u224
    refine s_goesOn h2 h5 (by omega) (by omega) th1 ha hl wa wl (fun σ1 f1 w1' => ?_)
    have f1' := mt_fp_t f (mt_fp_w (P' := fun m => m = w ∨ 16 ≤ m) (fun m hm => Or.inr (by omega)) (mt_fp_q f1))
    refine s_copies h2 h5 ⟨by omega, by omega⟩ ⟨w0, by omega⟩ (by omega) (by rw [f1'.2.1 2 (by omega) (by omega), q2]) w1' (fun σ2 f2 w2 => ?_)
    have f2' := mt_fp_t f1' (mt_fp_mf (P := fun m => m = w ∨ 16 ≤ m) (Or.inl rfl) f2)
    exact k σ2 _ (back σ2 f2') (by rw [f2'.2.1 20 (by omega) (by omega), q20]) w2 (mt_both_M h5 ha hl) hq
  have L : ∀ (F N : Nat) (i d need : Int) (S : Int → Int → Int) (C : Int → Int) (a l : Int → Int) (τ : ml_St), mt_fp 19 (fun m => m = w ∨ 16 ≤ m) τ1 τ → τ 215 19 = i → 0 ≤ i → i ≤ n → 0 ≤ d → d ≤ 6 → n - i < F → n - i + 1 < N →
      (∀ k, 0 ≤ k → k ≤ d → mt_M h (S k) ∧ mt_ok h (S k) ∧ 0 ≤ C k) → (∀ k, 0 ≤ k → k < d → ∃ x, mt_mv h τ (16 + 2 * k) x ∧ mt_M h x ∧ (C k ≤ mt_mst → mt_weq h x (S k))) →
      mt_mv h τ (16 + 2 * d) a → mt_mv h τ (17 + 2 * d) l → mt_M h a → mt_M h l → (C d ≤ mt_mst → mt_weq h (mt_both h a l) (S d)) →
      mt_gr t n h w F i d need = 0 → mt_we t n h mk F i d S = mt_wo t n h mk → mt_ct t n mt_one T F i d C = mt_ctw t n mt_one T → f_X12_makes_u24 Q (f_X12_makes_u224 Q) N τ w d := by
    intro F
    induction F with
    | zero => intro N i d need S C a l τ f e19 i0 i1 d0 d6 hF; omega
    | succ F ih =>
      -- behind an item
      have AF : ∀ (N : Nat) (i d : Int) (S : Int → Int → Int) (C : Int → Int) (a l : Int → Int) (Sd it : Int → Int) (c0 x : Int) (τ : ml_St), mt_fp 19 (fun m => m = w ∨ 16 ≤ m) τ1 τ → τ 215 19 = i → 0 ≤ i → i ≤ n → 0 ≤ d → d ≤ 6 → mt_tf t n i = 0 → n - i < F → n - i + 1 < N →
          (∀ k, 0 ≤ k → k < d → mt_M h (S k) ∧ mt_ok h (S k) ∧ 0 ≤ C k) → (∀ k, 0 ≤ k → k < d → ∃ x, mt_mv h τ (16 + 2 * k) x ∧ mt_M h x ∧ (C k ≤ mt_mst → mt_weq h x (S k))) →
          mt_M h Sd → mt_ok h Sd → mt_M h it → mt_ok h it → 0 ≤ c0 → 0 ≤ x → mt_mv h τ (16 + 2 * d) a → mt_mv h τ (17 + 2 * d) l → mt_M h a → mt_M h l → (c0 ≤ mt_mst → mt_weq h a Sd) → (x ≤ mt_mst → mt_weq h l it) →
          mt_gr t n h w F (mt_tn t n i) d 0 = 0 → mt_we t n h mk F (mt_tn t n i) d (mt_set S d (mt_both h Sd (mt_rep h (mt_tm t n i) it))) = mt_wo t n h mk → mt_ct t n mt_one T F (mt_tn t n i) d (mt_st C d (c0 + mt_tm t n i * x)) = mt_ctw t n mt_one T → f_X12_makes_u24 Q (f_X12_makes_u224 Q) N τ w d := by
        intro N i d S C a l Sd it c0 x τ f e19 i0 i1 d0 d6 gt hF hN hS lo hSd oSd hit oit c00 x0 wa wl ha hl qa ql g' hw hc
        have rt := mt_tm_r (t := t) (n := n) (i := i) i0 gt
        have rn := mt_tn_r (t := t) (n := n) (i := i) i1
        have tx := Int.mul_nonneg rt.1 x0
        have hS' : ∀ k, 0 ≤ k → k ≤ d → mt_M h (mt_set S d (mt_both h Sd (mt_rep h (mt_tm t n i) it)) k) ∧ mt_ok h (mt_set S d (mt_both h Sd (mt_rep h (mt_tm t n i) it)) k) ∧ 0 ≤ mt_st C d (c0 + mt_tm t n i * x) k := by
          intro k k0 k1
          unfold mt_set mt_st
          by_cases q : k = d
          · rw [if_pos q, if_pos q]; exact ⟨mt_both_M h5 hSd (mt_rep_M h5 hit), mt_both_ok h5 oSd.2.2.1, by omega⟩
          · rw [if_neg q, if_neg q]; exact hS k k0 (by omega)
        have lo' : ∀ σ : ml_St, (∀ k, 0 ≤ k → k < d → ∃ x, mt_mv h σ (16 + 2 * k) x ∧ mt_M h x ∧ (C k ≤ mt_mst → mt_weq h x (S k))) → ∀ k, 0 ≤ k → k < d → ∃ y, mt_mv h σ (16 + 2 * k) y ∧ mt_M h y ∧ (mt_st C d (c0 + mt_tm t n i * x) k ≤ mt_mst → mt_weq h y (mt_set S d (mt_both h Sd (mt_rep h (mt_tm t n i) it)) k)) := by
          intro σ lo k k0 k1
          unfold mt_set mt_st
          rw [if_neg (by omega), if_neg (by omega)]
          exact lo k k0 k1
        by_cases s : i < n ∧ t i = 42
        · obtain ⟨N, rfl⟩ : ∃ N', N = N' + 1 := ⟨N - 1, by omega⟩
          obtain ⟨m, m1, m2, y1, y2, y3, y4, y5⟩ := mt_tf_0 i0 gt s
          have u42 : mt_u t n i = 42 := by
            have := uc i i0
            have e : mt_c t n i = 42 := by unfold mt_c; rw [if_pos s.1]; exact s.2
            omega
          have f218 : ∀ j, τ 218 (100 * w + j) = t j := fun j => by rw [f.1 218 (by omega) (by omega) (by omega) (by omega) (by omega) (by omega) (by omega), q1 218 (by omega), htj]
          have f219 : τ 219 w = n := by rw [f.1 219 (by omega) (by omega) (by omega) (by omega) (by omega) (by omega) (by omega), q1 219 (by omega), en]
          have e20 : τ 215 20 = w := by rw [f.2.1 20 (by omega) (by omega), q20]
          unfold f_X12_makes_u24
          rw [e19, f219]
          refine fun _ => ⟨w0, w1, fun _ => ⟨fun c => absurd c (by omega), fun _ => ?_⟩⟩
          refine s_read w0 w1 i0 n1 e19 e20 f219 ?_
          rw [show (fun j => τ 218 (100 * w + j)) = t by funext j; exact f218 j, u42, e19]
          refine fun _ _ => ⟨mt_I (by omega) (by omega), fun σ7 g7 => ⟨fun c => absurd rfl c, fun _ => ?_⟩⟩
          have k7 : ∀ j, j ≠ 215 → σ7 j = τ j := fun j hj => by rw [g7, ml_up_k hj]
          refine s_readNumber (i := i + 1) (m := m) w0 w1 (by omega) n1 (by rw [g7, ml_up_i (by omega), e20]) (by rw [g7, ml_up_same]) (by rw [k7 219 (by omega), f219]) m2 (by omega) (fun j j0 j1 => by rw [k7 218 (by omega), f218, ← htj]; exact tI j j0 j1) (fun k hk => by rw [k7 218 (by omega), f218]; exact y4 k hk) (fun hk => by rw [k7 218 (by omega), f218]; exact y5 hk) ?_
          rw [show (fun j => σ7 218 (100 * w + j)) = t by funext j; rw [k7 218 (by omega)]; exact f218 j, ← y3, g7, ml_up_up, ← y1]
          have f8 : mt_fp 19 (fun m => m = w ∨ 16 ≤ m) τ (ml_up τ 215 19 (mt_tn t n i)) := mt_fp_19
          have f8' : mt_fp 19 (fun _ => False) τ (ml_up τ 215 19 (mt_tn t n i)) := mt_fp_19
          refine fun _ => ⟨mt_I (by omega) (by omega), mt_I (by omega) (by omega), ?_⟩
          refine s_repeats h2 h5 (by omega) (by omega) rt.1 rt.2 (by rw [ml_up_i (by omega), f.2.1 2 (by omega) (by omega), q2]) hl (mt_mv_p h5 f8' (by simp) wl) (fun σ37 f37 w37 => ?_)
          have fR : mt_fp 19 (fun x => x = 17 + 2 * d ∨ x = 60 ∨ x = 61 ∨ x = 62) τ σ37 := mt_fp_t mt_fp_19 (mt_fp_q f37)
          have f' : mt_fp 19 (fun m => m = w ∨ 16 ≤ m) τ1 σ37 := mt_fp_t f (mt_fp_w (fun m hm => Or.inr (by omega)) fR)
          have ql' : mt_tm t n i * x ≤ mt_mst → mt_weq h (mt_rp h 40 (mt_tm t n i) (mt_str h) l) (mt_rep h (mt_tm t n i) it) := by
            intro hc
            unfold mt_rep
            by_cases o : mt_tm t n i = 1
            · rw [if_pos o, o, mt_rp_1]
              rw [o, Int.one_mul] at hc
              exact mt_weq_t (mt_both_c (by omega) h5 (mt_str_M h5) hl mt_weq_r (ql hc)) (mt_id h2 h5 hit oit)
            · rw [if_neg o]
              by_cases z : mt_tm t n i = 0
              · rw [z, mt_rp_0, mt_rp_0]; exact mt_weq_r
              · have : x ≤ mt_tm t n i * x := by
                  have := Int.mul_le_mul_of_nonneg_right (show (1 : Int) ≤ mt_tm t n i by omega) x0
                  omega
                exact mt_rp_c (by omega) h5 _ _ _ _ _ _ (mt_str_M h5) hl mt_weq_r (ql (by omega))
          refine ih N (mt_tn t n i) d 0 _ _ a (mt_rp h 40 (mt_tm t n i) (mt_str h) l) σ37 f' ?_ (by omega) rn.2 d0 d6 (by omega) (by omega) hS' (lo' σ37 (fun k k0 k1 => ?_)) (mt_mv_p h5 fR (by omega) wa) w37 ha (mt_rp_M h5 _ _ _ _ (mt_str_M h5) hl) ?_ g' hw hc
          · rw [f37.2.1 19 (by omega) (by omega), ml_up_same]
          · obtain ⟨x, x1, x2, x3⟩ := lo k k0 k1
            exact ⟨x, mt_mv_p h5 fR (by omega) x1, x2, x3⟩
          · unfold mt_set mt_st
            rw [if_pos rfl, if_pos rfl]
            intro hcm
            exact mt_both_c (by omega) h5 ha (mt_rp_M h5 _ _ _ _ (mt_str_M h5) hl) (qa (by omega)) (ql' (by omega))
        · have y1 : mt_tn t n i = i := by unfold mt_tn; rw [if_neg s]
          have y3 : mt_tm t n i = 1 := by unfold mt_tm; rw [if_neg s]
          rw [y1] at g' hw hc
          refine ih N i d 0 _ _ a l τ f e19 i0 i1 d0 d6 hF hN hS' (lo' τ lo) wa wl ha hl ?_ g' hw hc
          unfold mt_set mt_st
          rw [if_pos rfl, if_pos rfl, y3, Int.one_mul]
          intro hcm
          unfold mt_rep
          rw [if_pos rfl]
          exact mt_both_c (by omega) h5 ha hl (qa (by omega)) (ql (by omega))
      intro N i d need S C a l τ f e19 i0 i1 d0 d6 hF hN hS lo wa wl ha hl qd g hw hc
      obtain ⟨N, rfl⟩ : ∃ N', N = N' + 1 := ⟨N - 1, by omega⟩
      have f218 : ∀ j, τ 218 (100 * w + j) = t j := fun j => by rw [f.1 218 (by omega) (by omega) (by omega) (by omega) (by omega) (by omega) (by omega), q1 218 (by omega), htj]
      have f219 : τ 219 w = n := by rw [f.1 219 (by omega) (by omega) (by omega) (by omega) (by omega) (by omega) (by omega), q1 219 (by omega), en]
      have e20 : τ 215 20 = w := by rw [f.2.1 20 (by omega) (by omega), q20]
      have th1 : τ 215 2 = h := by rw [f.2.1 2 (by omega) (by omega), q2]
      unfold mt_ct at hc
      unfold mt_we at hw
      unfold f_X12_makes_u24
      rw [e19, f219]
      refine fun _ => ⟨w0, w1, fun _ => ⟨fun c => ?_, fun c => ?_⟩⟩
      · rw [if_pos c] at hc hw
        rcases mt_gr_c n0 i0 g with z | z | z | z | z
        · have d00 : d = 0 := z.2.2
          subst d00
          refine KE τ a l f wa wl ha hl ?_
          rw [← hc, ← hw]
          exact qd
        all_goals omega
      rw [if_neg c] at hc hw
      refine s_read w0 w1 i0 n1 e19 e20 f219 ?_
      have ui := uc i i0
      have ci : mt_c t n i = t i := by unfold mt_c; rw [if_pos (by omega)]
      have uti : (t i = 40 ∨ t i = 41 ∨ t i = 120 ∨ t i = 117 ∨ (65 ≤ t i ∧ t i < 81)) ∧ mt_u t n i = t i := by
        rcases mt_gr_c n0 i0 g with z | z | z | z | z <;> constructor <;> omega
      obtain ⟨tk, eu⟩ := uti
      rw [show (fun j => τ 218 (100 * w + j)) = t by funext j; exact f218 j, eu, e19]
      refine fun _ _ => ⟨mt_I (by omega) (by omega), fun σ7 g7 => ⟨fun _ => ?_, fun c42 => absurd c42 (by omega)⟩⟩
      have f7 : mt_fp 19 (fun _ => False) τ σ7 := by rw [g7]; exact mt_fp_19
      have r7 : σ7 215 19 = i + 1 := by rw [g7, ml_up_same]
      refine s_goesOn h2 h5 d0 d6 (by rw [f7.2.1 2 (by omega) (by omega), th1]) ha hl (mt_mv_p h5 f7 (by simp) wa) (mt_mv_p h5 f7 (by simp) wl) (fun σ9 f9 w9 => ?_)
      have fR : mt_fp 19 (fun m => m = 63 ∨ m = 16 + 2 * d) τ σ9 := mt_fp_t (mt_fp_w (fun m hm => hm.elim) f7) (mt_fp_q f9)
      have f' : mt_fp 19 (fun m => m = w ∨ 16 ≤ m) τ1 σ9 := mt_fp_t f (mt_fp_w (fun m hm => Or.inr (by omega)) fR)
      have r9 : σ9 215 19 = i + 1 := by rw [f9.2.1 19 (by omega) (by omega), r7]
      have th9 : σ9 215 2 = h := by rw [f'.2.1 2 (by omega) (by omega), q2]
      have hM9 := mt_both_M h5 ha hl
      have lo9 : ∀ k, 0 ≤ k → k < d → ∃ x, mt_mv h σ9 (16 + 2 * k) x ∧ mt_M h x ∧ (C k ≤ mt_mst → mt_weq h x (S k)) := fun k k0 k1 => by
        obtain ⟨x, x1, x2, x3⟩ := lo k k0 k1
        exact ⟨x, mt_mv_p h5 fR (by omega) x1, x2, x3⟩
      obtain ⟨hSd, oSd, hCd⟩ := hS d d0 (by omega)
      -- one place of the lasts is written, the rest stays
      have keep : ∀ (σ : ml_St), mt_mf (17 + 2 * d) σ9 σ → (mt_fp 19 (fun m => m = w ∨ 16 ≤ m) τ1 σ ∧ σ 215 19 = i + 1 ∧ (∀ k, 0 ≤ k → k < d → ∃ x, mt_mv h σ (16 + 2 * k) x ∧ mt_M h x ∧ (C k ≤ mt_mst → mt_weq h x (S k))) ∧ mt_mv h σ (16 + 2 * d) (mt_both h a l)) := by
        intro σ fs
        refine ⟨mt_fp_t f' (mt_fp_mf (Or.inr (by omega)) fs), by rw [fs.2.1 19 (by omega), r9], fun k k0 k1 => ?_, mt_mv_f h5 fs (by omega) w9⟩
        obtain ⟨x, x1, x2, x3⟩ := lo9 k k0 k1
        exact ⟨x, mt_mv_f h5 fs (by omega) x1, x2, x3⟩
      have SGN : (t i = 120 ∨ t i = 117) → f_X12_makes_u166 Q (f_X12_makes_u24 Q (f_X12_makes_u224 Q) N) σ9 w d (t i) := by
        intro hcc
        rcases mt_gr_c n0 i0 g with z | z | z | z | z
        · omega
        · omega
        · omega
        · obtain ⟨z1, z2, z3, z4, z5, z6, z7, z8⟩ := z
          rw [if_neg (by omega), if_neg (by omega), if_pos hcc] at hc hw
          have ci1 : mt_u t n (i + 1) = t (i + 1) := by
            have := uc (i + 1) (by omega)
            have : mt_c t n (i + 1) = t (i + 1) := by unfold mt_c; rw [if_pos z3]
            omega
          have e20' : σ9 215 20 = w := by rw [f'.2.1 20 (by omega) (by omega), q20]
          have f219' : σ9 219 w = n := by rw [fR.1 219 (by omega) (by omega) (by omega) (by omega) (by omega) (by omega) (by omega), f219]
          have go : ∀ s2, (s2 = 0 → t i ≠ 120) → (s2 ≠ 0 → t i = 120) → f_X12_makes_u184 Q (f_X12_makes_u24 Q (f_X12_makes_u224 Q) N) σ9 w d (17 + 2 * d) s2 := by
            intro s2 h0 h1
            unfold f_X12_makes_u184
            refine s_read w0 w1 (by omega) n1 r9 e20' f219' ?_
            rw [show (fun j => σ9 218 (100 * w + j)) = t by funext j; rw [fR.1 218 (by omega) (by omega) (by omega) (by omega) (by omega) (by omega) (by omega)]; exact f218 j, ci1]
            refine fun _ => ⟨mt_I (by omega) (by omega), s_sign h2 h5 ⟨by omega, by omega⟩ th9 (by omega) (by omega) (fun σ3 f3 w3 => ?_)⟩
            obtain ⟨x1, x2, x3, x4⟩ := keep σ3 f3
            rw [x2]
            refine fun _ => ⟨mt_I (by omega) (by omega), fun σ6 g6 => ?_⟩
            have f6 : mt_fp 19 (fun _ => False) σ3 σ6 := by rw [g6]; exact mt_fp_19
            unfold f_X12_makes_u221
            have eit : (if s2 = 0 then (1 : Int) else 0) = if t i = 117 then 1 else 0 := by
              by_cases q : s2 = 0
              · rw [if_pos q, if_pos (by have := h0 q; omega)]
              · rw [if_neg q, if_neg (by have := h1 q; omega)]
            rw [eit] at w3
            refine AF N (i + 2) d S C (mt_both h a l) _ (S d) (mt_sgn h (t (i + 1) - 48) (if t i = 117 then 1 else 0)) (C d) (mt_one (t i)) σ6 (mt_fp_t x1 (mt_fp_w (fun m hm => hm.elim) f6)) (by rw [g6, ml_up_same]; omega) (by omega) (by omega) d0 d6 z7 (by omega) (by omega) (fun k k0 k1 => hS k k0 (by omega)) (fun k k0 k1 => ?_) hSd oSd (mt_sgn_M h5 (by omega) (by omega)) (mt_sgn_ok h5) hCd (by unfold mt_one; omega) (mt_mv_p h5 f6 (by simp) x4) (mt_mv_p h5 f6 (by simp) w3) hM9 (mt_sgn_M h5 (by omega) (by omega)) qd (fun _ => mt_weq_r) z8 hw hc
            obtain ⟨x, y1, y2, y3⟩ := x3 k k0 k1
            exact ⟨x, mt_mv_p h5 f6 (by simp) y1, y2, y3⟩
          unfold f_X12_makes_u166
          exact ⟨mt_I (by omega) (by omega), mt_I (by omega) (by omega), fun c => go 0 (fun _ => c) (fun c => absurd rfl c), fun c => go 1 (fun c => absurd c (by omega)) (fun _ => c)⟩
        · omega
      refine ⟨fun c40 => ⟨fun c41 => ⟨fun c120 => SGN (Or.inl c120), fun c120 => ⟨fun c117 => ?_, fun c117 => SGN (Or.inr c117)⟩⟩, fun c41 => ?_⟩, fun c40 => ?_⟩
      · -- a letter
        rcases mt_gr_c n0 i0 g with z | z | z | z | z
        · omega
        · omega
        · omega
        · omega
        · obtain ⟨z1, z2, z3, z4, z5, z6⟩ := z
          rw [if_neg (by omega), if_neg (by omega), if_neg (by omega)] at hc hw
          obtain ⟨m1, m2, m3, x, m4, m5, m6⟩ := wm (t i - 65) (by omega) z4
          have m4' : mt_mv h σ9 (t i - 65) x := by
            have m7 : mt_mv h τ1 (t i - 65) x := ⟨fun e e0 e1 => by rw [q1 227 (by omega), q1 228 (by omega)]; exact m4.1 e e0 e1, by rw [q1 229 (by omega), q1 230 (by omega), q1 231 (by omega)]; exact m4.2⟩
            exact mt_mv_p h5 f' (by omega) m7
          refine ⟨mt_I (by omega) (by omega), mt_I (by omega) (by omega), mt_I (by omega) (by omega), s_copies h2 h5 ⟨by omega, by omega⟩ ⟨by omega, by omega⟩ (by omega) th9 m4' (fun σ17 f17 w17 => ?_)⟩
          obtain ⟨x1, x2, x3, x4⟩ := keep σ17 f17
          unfold f_X12_makes_u221
          exact AF N (i + 1) d S C (mt_both h a l) x (S d) (mk (t i - 65)) (C d) (T (t i - 65)) σ17 x1 x2 (by omega) (by omega) d0 d6 z5 (by omega) (by omega) (fun k k0 k1 => hS k k0 (by omega)) x3 hSd oSd m1 m2 hCd m3 x4 w17 hM9 m5 qd m6 z6 hw hc
      · -- a closing
        rcases mt_gr_c n0 i0 g with z | z | z | z | z
        · omega
        · omega
        · obtain ⟨z1, z2, z3, z4, z5, z6⟩ := z
          rw [if_neg (by omega), if_pos c41] at hc hw
          refine ⟨mt_I (by omega) (by omega), fun y18 e18 => ?_⟩
          have e18 : y18 = d - 1 := by omega
          subst e18
          refine ⟨mt_I (by omega) (by omega), mt_I (by omega) (by omega), mt_I (by omega) (by omega), mt_I (by omega) (by omega), ?_⟩
          rw [show 18 + 2 * (d - 1) = 16 + 2 * d by omega, show 17 + 2 * (d - 1) = 15 + 2 * d by omega]
          refine s_copies h2 h5 ⟨by omega, by omega⟩ ⟨by omega, by omega⟩ (by omega) th9 w9 (fun σ23 f23 w23 => ?_)
          unfold f_X12_makes_u221
          obtain ⟨x, p1, p2, p3⟩ := lo9 (d - 1) (by omega) (by omega)
          obtain ⟨p4, p5, p6⟩ := hS (d - 1) (by omega) (by omega)
          refine AF N (i + 1) (d - 1) S C x (mt_both h a l) (S (d - 1)) (S d) (C (d - 1)) (C d) σ23 (mt_fp_t f' (mt_fp_mf (Or.inr (by omega)) f23)) (by rw [f23.2.1 19 (by omega), r9]) (by omega) (by omega) (by omega) (by omega) z5 (by omega) (by omega) (fun k k0 k1 => hS k k0 (by omega)) (fun k k0 k1 => ?_) p4 p5 hSd oSd p6 hCd (mt_mv_f h5 f23 (by omega) p1) ?_ p2 hM9 p3 qd z6 hw hc
          · obtain ⟨y, y1, y2, y3⟩ := lo9 k k0 (by omega)
            exact ⟨y, mt_mv_f h5 f23 (by omega) y1, y2, y3⟩
          · rw [show 17 + 2 * (d - 1) = 15 + 2 * d by omega]; exact w23
        · omega
        · omega
      · -- an opening
        rcases mt_gr_c n0 i0 g with z | z | z | z | z
        · omega
        · obtain ⟨z1, z2, z3, z4⟩ := z
          rw [if_pos c40] at hc hw
          refine ⟨mt_I (by omega) (by omega), mt_I (by omega) (by omega), s_straight h2 h5 ⟨by omega, by omega⟩ th9 (fun σ26 f26 w26 => ⟨mt_I (by omega) (by omega), fun y27 e27 => ?_⟩)⟩
          subst e27
          obtain ⟨x1, x2, x3, x4⟩ := keep σ26 f26
          refine ⟨mt_I (by omega) (by omega), mt_I (by omega) (by omega), s_straight h2 h5 ⟨by omega, by omega⟩ (by rw [f26.2.1 2 (by omega), th9]) (fun σ30 f30 w30 => ⟨mt_I (by omega) (by omega), mt_I (by omega) (by omega), ?_⟩)⟩
          refine s_straight h2 h5 ⟨by omega, by omega⟩ (by rw [f30.2.1 2 (by omega), f26.2.1 2 (by omega), th9]) (fun σ33 f33 w33 => ?_)
          unfold f_X12_makes_u221
          refine ih N (i + 1) (d + 1) 1 _ _ (mt_str h) (mt_str h) σ33 (mt_fp_t x1 (mt_fp_t (mt_fp_mf (Or.inr (by omega)) f30) (mt_fp_mf (Or.inr (by omega)) f33))) (by rw [f33.2.1 19 (by omega), f30.2.1 19 (by omega), x2]) (by omega) (by omega) (by omega) (by omega) (by omega) (by omega) (fun k k0 k1 => ?_) (fun k k0 k1 => ?_) (mt_mv_f h5 f33 (by omega) w30) w33 (mt_str_M h5) (mt_str_M h5) ?_ z4 hw hc
          · unfold mt_set mt_st
            by_cases q : k = d + 1
            · rw [if_pos q, if_pos q]; exact ⟨mt_str_M h5, mt_str_ok h5, Int.le_refl 0⟩
            · rw [if_neg q, if_neg q]; exact hS k k0 (by omega)
          · unfold mt_set mt_st
            rw [if_neg (by omega), if_neg (by omega)]
            by_cases q : k = d
            · subst q
              exact ⟨_, mt_mv_f h5 f33 (by omega) (mt_mv_f h5 f30 (by omega) x4), hM9, qd⟩
            · obtain ⟨y, y1, y2, y3⟩ := x3 k k0 (by omega)
              exact ⟨y, mt_mv_f h5 f33 (by omega) (mt_mv_f h5 f30 (by omega) y1), y2, y3⟩
          · unfold mt_set
            rw [if_pos rfl]
            exact fun _ => mt_id h2 h5 (mt_str_M h5) (mt_str_ok h5)
        · omega
        · omega
        · omega
  unfold f_X12_makes f_X12_makes_u0
  intro σ1 g1 σ2 g2
  rw [hτ1] at g1
  have f2 : mt_fp 19 (fun m => m = w ∨ 16 ≤ m) τ1 σ2 := by rw [g2, g1]; exact mt_fp_19
  have th2 : σ2 215 2 = h := by rw [f2.2.1 2 (by omega) (by omega), q2]
  refine s_straight h2 h5 ⟨by omega, by omega⟩ th2 (fun σ3 f3 w3 => ?_)
  refine s_straight h2 h5 ⟨by omega, by omega⟩ (by rw [f3.2.1 2 (by omega), th2]) (fun σ4 f4 w4 => ⟨n.toNat + 3, ?_⟩)
  refine L (n.toNat + 1) _ 0 0 1 (fun _ => mt_str h) (fun _ => 0) (mt_str h) (mt_str h) σ4 (mt_fp_t f2 (mt_fp_t (mt_fp_mf (Or.inr (by omega)) f3) (mt_fp_mf (Or.inr (by omega)) f4))) (by rw [f4.2.1 19 (by omega), f3.2.1 19 (by omega), g2, ml_up_same]) (by omega) n0 (by omega) (by omega) (by omega) (by omega) (fun k k0 k1 => ⟨mt_str_M h5, mt_str_ok h5, by omega⟩) (fun k k0 k1 => absurd k1 (by omega)) (mt_mv_f h5 f4 (by omega) w3) w4 (mt_str_M h5) (mt_str_M h5) (fun _ => mt_id h2 h5 (mt_str_M h5) (mt_str_ok h5)) g rfl rfl
