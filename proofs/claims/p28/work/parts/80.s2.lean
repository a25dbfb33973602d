def mt_one (_ : Int) : Int := 1
def mt_mst : Int := 1000000000000
theorem s_makes {Q : ml_St → Prop} {τ0 : ml_St} {w n h : Int} {mk : Int → Int → Int} {T : Int → Int} (w0 : 0 ≤ w) (w1 : w < 16) (h2 : 2 ≤ h) (h5 : h ≤ 5) (n0 : 0 ≤ n) (n1 : n ≤ 100) (th : τ0 215 2 = h) (en : τ0 219 w = n) (tI : ∀ j, 0 ≤ j → j < n → ml_I8 (τ0 218 (100 * w + j))) (g : mt_gr (fun j => τ0 218 (100 * w + j)) n h w (n.toNat + 1) 0 0 1 = 0)
    (wm : ∀ v, 0 ≤ v → v < w → mt_M h (mk v) ∧ mt_ok h (mk v) ∧ 0 ≤ T v ∧ ∃ x, mt_mv h τ0 v x ∧ mt_M h x ∧ (T v ≤ mt_mst → mt_weq h x (mk v)))
    (k : ∀ τ r, mt_fp 19 (fun m => m = w ∨ 16 ≤ m) τ0 (ml_up τ 215 20 (τ0 215 20)) → τ 215 20 = w → mt_mv h τ w r → mt_M h r → (mt_ctw (fun j => τ0 218 (100 * w + j)) n mt_one T ≤ mt_mst → mt_weq h r (mt_wo (fun j => τ0 218 (100 * w + j)) n h mk)) → Q τ) : f_X12_makes τ0 w Q := by
  generalize ht : (fun j => τ0 218 (100 * w + j)) = t at *
  have htj : ∀ j, τ0 218 (100 * w + j) = t j := fun j => by rw [← ht]
  have uc := fun (j : Int) (hj : 0 ≤ j) => mt_u_c (t := t) (n := n) (i := j) (fun c => by rw [← htj]; exact tI j hj c)
  -- τ1: the store with the word in readWord
  generalize hτ1 : ml_up τ0 215 20 w = τ1
  have q1 : ∀ j, j ≠ 215 → τ1 j = τ0 j := fun j hj => by rw [← hτ1, ml_up_k hj]
  have q2 : τ1 215 2 = h := by rw [← hτ1, ml_up_i (by omega), th]
  have q20 : τ1 215 20 = w := by rw [← hτ1, ml_up_same]
  have back : ∀ τ, mt_fp 19 (fun m => m = w ∨ 16 ≤ m) τ1 τ → mt_fp 19 (fun m => m = w ∨ 16 ≤ m) τ0 (ml_up τ 215 20 (τ0 215 20)) := by
    intro τ f
    refine ⟨fun k h1 h3 h4 h6 h7 h8 h9 => by rw [ml_up_k h1, f.1 k h1 h3 h4 h6 h7 h8 h9, q1 k h1], fun b hb hb2 => ?_, fun m hm => ?_⟩
    · by_cases c : b = 20
      · rw [c, ml_up_same]
      · rw [ml_up_i c, f.2.1 b hb hb2, ← hτ1, ml_up_i c]
    · have := f.2.2 m hm
      rw [q1 227 (by omega), q1 228 (by omega), q1 229 (by omega), q1 230 (by omega), q1 231 (by omega)] at this
      rw [ml_up_k (show (227:Int) ≠ 215 by omega), ml_up_k (show (228:Int) ≠ 215 by omega), ml_up_k (show (229:Int) ≠ 215 by omega), ml_up_k (show (230:Int) ≠ 215 by omega), ml_up_k (show (231:Int) ≠ 215 by omega)]
      exact this
  -- the end
  have KE : ∀ (τ : ml_St) (a l : Int → Int), mt_fp 19 (fun m => m = w ∨ 16 ≤ m) τ1 τ → mt_mv h τ 16 a → mt_mv h τ 17 l → mt_M h a → mt_M h l → (mt_ctw t n mt_one T ≤ mt_mst → mt_weq h (mt_both h a l) (mt_wo t n h mk)) → f_X12_makes_u224 Q τ w := by
    intro τ a l f wa wl ha hl hq
    have th1 : τ 215 2 = h := by rw [f.2.1 2 (by omega) (by omega), q2]
    unfold f_X12_makes_u224
    refine s_goesOn h2 h5 (by omega) (by omega) th1 ha hl wa wl (fun σ1 f1 w1' => ?_)
    have f1' := mt_fp_t f (mt_fp_w (P' := fun m => m = w ∨ 16 ≤ m) (fun m hm => Or.inr (by omega)) (mt_fp_q f1))
    refine s_copies h2 h5 ⟨by omega, by omega⟩ ⟨w0, by omega⟩ (by omega) (by rw [f1'.2.1 2 (by omega) (by omega), q2]) w1' (fun σ2 f2 w2 => ?_)
    have f2' := mt_fp_t f1' (mt_fp_mf (P := fun m => m = w ∨ 16 ≤ m) (Or.inl rfl) f2)
    exact k σ2 _ (back σ2 f2') (by rw [f2'.2.1 20 (by omega) (by omega), q20]) w2 (mt_both_M h5 ha hl) hq
  have L : ∀ (F N : Nat) (i d need : Int) (S : Int → Int → Int) (C : Int → Int) (a l : Int → Int) (τ : ml_St), mt_fp 19 (fun m => m = w ∨ 16 ≤ m) τ1 τ → τ 215 19 = i → 0 ≤ i → i ≤ n → 0 ≤ d → d ≤ 6 → n - i < F → n - i + 1 < N →
      (∀ k, 0 ≤ k → k ≤ d → mt_M h (S k) ∧ mt_ok h (S k) ∧ 0 ≤ C k) → (∀ k, 0 ≤ k → k < d → ∃ x, mt_mv h τ (16 + 2 * k) x ∧ mt_M h x ∧ (C k ≤ mt_mst → mt_weq h x (S k))) →
      mt_mv h τ (16 + 2 * d) a → mt_mv h τ (17 + 2 * d) l → mt_M h a → mt_M h l → (C d ≤ mt_mst → mt_weq h (mt_both h a l) (S d)) →
      mt_gr t n h w F i d need = 0 → mt_we t n h mk F i d S = mt_wo t n h mk → mt_ct t n mt_one T F i d C = mt_ctw t n mt_one T → f_X12_makes_u24 Q (f_X12_makes_u224 Q) N τ w d := by
    intro F
    induction F with
    | zero => intro N i d need S C a l τ f e19 i0 i1 d0 d6 hF; omega
    | succ F ih =>
      -- behind an item
      have AF : ∀ (N : Nat) (i d : Int) (S : Int → Int → Int) (C : Int → Int) (a l : Int → Int) (Sd it : Int → Int) (c0 x : Int) (τ : ml_St), mt_fp 19 (fun m => m = w ∨ 16 ≤ m) τ1 τ → τ 215 19 = i → 0 ≤ i → i ≤ n → 0 ≤ d → d ≤ 6 → mt_tf t n i = 0 → n - i < F → n - i + 1 < N →
          (∀ k, 0 ≤ k → k < d → mt_M h (S k) ∧ mt_ok h (S k) ∧ 0 ≤ C k) → (∀ k, 0 ≤ k → k < d → ∃ x, mt_mv h τ (16 + 2 * k) x ∧ mt_M h x ∧ (C k ≤ mt_mst → mt_weq h x (S k))) →
          mt_M h Sd → mt_ok h Sd → mt_M h it → mt_ok h it → 0 ≤ c0 → 0 ≤ x → mt_mv h τ (16 + 2 * d) a → mt_mv h τ (17 + 2 * d) l → mt_M h a → mt_M h l → (c0 ≤ mt_mst → mt_weq h a Sd) → (x ≤ mt_mst → mt_weq h l it) →
          mt_gr t n h w F (mt_tn t n i) d 0 = 0 → mt_we t n h mk F (mt_tn t n i) d (mt_set S d (mt_both h Sd (mt_rep h (mt_tm t n i) it))) = mt_wo t n h mk → mt_ct t n mt_one T F (mt_tn t n i) d (mt_st C d (c0 + mt_tm t n i * x)) = mt_ctw t n mt_one T → f_X12_makes_u24 Q (f_X12_makes_u224 Q) N τ w d := by
        intro N i d S C a l Sd it c0 x τ f e19 i0 i1 d0 d6 gt hF hN hS lo hSd oSd hit oit c00 x0 wa wl ha hl qa ql g' hw hc
        have rt := mt_tm_r (t := t) (n := n) (i := i) i0 gt
        have rn := mt_tn_r (t := t) (n := n) (i := i) i1
        have tx := Int.mul_nonneg rt.1 x0
        have hS' : ∀ k, 0 ≤ k → k ≤ d → mt_M h (mt_set S d (mt_both h Sd (mt_rep h (mt_tm t n i) it)) k) ∧ mt_ok h (mt_set S d (mt_both h Sd (mt_rep h (mt_tm t n i) it)) k) ∧ 0 ≤ mt_st C d (c0 + mt_tm t n i * x) k := by
          intro k k0 k1
          unfold mt_set mt_st
          by_cases q : k = d
          · rw [if_pos q, if_pos q]; exact ⟨mt_both_M h5 hSd (mt_rep_M h5 hit), mt_both_ok h5 oSd.2.2.1, by omega⟩
          · rw [if_neg q, if_neg q]; exact hS k k0 (by omega)
        have lo' : ∀ σ : ml_St, (∀ k, 0 ≤ k → k < d → ∃ x, mt_mv h σ (16 + 2 * k) x ∧ mt_M h x ∧ (C k ≤ mt_mst → mt_weq h x (S k))) → ∀ k, 0 ≤ k → k < d → ∃ y, mt_mv h σ (16 + 2 * k) y ∧ mt_M h y ∧ (mt_st C d (c0 + mt_tm t n i * x) k ≤ mt_mst → mt_weq h y (mt_set S d (mt_both h Sd (mt_rep h (mt_tm t n i) it)) k)) := by
          intro σ lo k k0 k1
          unfold mt_set mt_st
          rw [if_neg (by omega), if_neg (by omega)]
          exact lo k k0 k1
        by_cases s : i < n ∧ t i = 42
        · obtain ⟨N, rfl⟩ : ∃ N', N = N' + 1 := ⟨N - 1, by omega⟩
          obtain ⟨m, m1, m2, y1, y2, y3, y4, y5⟩ := mt_tf_0 i0 gt s
          have u42 : mt_u t n i = 42 := by
            have := uc i i0
            have e : mt_c t n i = 42 := by unfold mt_c; rw [if_pos s.1]; exact s.2
            omega
          have f218 : ∀ j, τ 218 (100 * w + j) = t j := fun j => by rw [f.1 218 (by omega) (by omega) (by omega) (by omega) (by omega) (by omega) (by omega), q1 218 (by omega), htj]
          have f219 : τ 219 w = n := by rw [f.1 219 (by omega) (by omega) (by omega) (by omega) (by omega) (by omega) (by omega), q1 219 (by omega), en]
          have e20 : τ 215 20 = w := by rw [f.2.1 20 (by omega) (by omega), q20]
          unfold f_X12_makes_u24
          rw [e19, f219]
          refine fun _ => ⟨w0, w1, fun _ => ⟨fun c => absurd c (by omega), fun _ => ?_⟩⟩
          refine s_read w0 w1 i0 n1 e19 e20 f219 ?_
          rw [show (fun j => τ 218 (100 * w + j)) = t by funext j; exact f218 j, u42, e19]
          refine fun _ _ => ⟨mt_I (by omega) (by omega), fun σ7 g7 => ⟨fun c => absurd rfl c, fun _ => ?_⟩⟩
          have k7 : ∀ j, j ≠ 215 → σ7 j = τ j := fun j hj => by rw [g7, ml_up_k hj]
          refine s_readNumber (i := i + 1) (m := m) w0 w1 (by omega) n1 (by rw [g7, ml_up_i (by omega), e20]) (by rw [g7, ml_up_same]) (by rw [k7 219 (by omega), f219]) m2 (by omega) (fun j j0 j1 => by rw [k7 218 (by omega), f218, ← htj]; exact tI j j0 j1) (fun k hk => by rw [k7 218 (by omega), f218]; exact y4 k hk) (fun hk => by rw [k7 218 (by omega), f218]; exact y5 hk) ?_
          rw [show (fun j => σ7 218 (100 * w + j)) = t by funext j; rw [k7 218 (by omega)]; exact f218 j, ← y3, g7, ml_up_up, ← y1]
          have f8 : mt_fp 19 (fun m => m = w ∨ 16 ≤ m) τ (ml_up τ 215 19 (mt_tn t n i)) := mt_fp_19
          have f8' : mt_fp 19 (fun _ => False) τ (ml_up τ 215 19 (mt_tn t n i)) := mt_fp_19
          refine fun _ => ⟨mt_I (by omega) (by omega), mt_I (by omega) (by omega), ?_⟩
          refine s_repeats h2 h5 (by omega) (by omega) rt.1 rt.2 (by rw [ml_up_i (by omega), f.2.1 2 (by omega) (by omega), q2]) hl (mt_mv_p h5 f8' (by simp) wl) (fun σ37 f37 w37 => ?_)
          have fR : mt_fp 19 (fun x => x = 17 + 2 * d ∨ x = 60 ∨ x = 61 ∨ x = 62) τ σ37 := mt_fp_t mt_fp_19 (mt_fp_q f37)
          have f' : mt_fp 19 (fun m => m = w ∨ 16 ≤ m) τ1 σ37 := mt_fp_t f (mt_fp_w (fun m hm => Or.inr (by omega)) fR)
          have ql' : mt_tm t n i * x ≤ mt_mst → mt_weq h (mt_rp h 40 (mt_tm t n i) (mt_str h) l) (mt_rep h (mt_tm t n i) it) := by
            intro hc
            unfold mt_rep
            by_cases o : mt_tm t n i = 1
            · rw [if_pos o, o, mt_rp_1]
              rw [o, Int.one_mul] at hc
              exact mt_weq_t (mt_both_c (by omega) h5 (mt_str_M h5) hl mt_weq_r (ql hc)) (mt_id h2 h5 hit oit)
            · rw [if_neg o]
              by_cases z : mt_tm t n i = 0
              · rw [z, mt_rp_0, mt_rp_0]; exact mt_weq_r
              · have : x ≤ mt_tm t n i * x := by
                  have := Int.mul_le_mul_of_nonneg_right (show (1 : Int) ≤ mt_tm t n i by omega) x0
                  omega
                exact mt_rp_c (by omega) h5 _ _ _ _ _ _ (mt_str_M h5) hl mt_weq_r (ql (by omega))
          refine ih N (mt_tn t n i) d 0 _ _ a (mt_rp h 40 (mt_tm t n i) (mt_str h) l) σ37 f' ?_ (by omega) rn.2 d0 d6 (by omega) (by omega) hS' (lo' σ37 (fun k k0 k1 => ?_)) (mt_mv_p h5 fR (by omega) wa) w37 ha (mt_rp_M h5 _ _ _ _ (mt_str_M h5) hl) ?_ g' hw hc
          · rw [f37.2.1 19 (by omega) (by omega), ml_up_same]
          · obtain ⟨x, x1, x2, x3⟩ := lo k k0 k1
            exact ⟨x, mt_mv_p h5 fR (by omega) x1, x2, x3⟩
          · unfold mt_set mt_st
            rw [if_pos rfl, if_pos rfl]
            intro hcm
            exact mt_both_c (by omega) h5 ha (mt_rp_M h5 _ _ _ _ (mt_str_M h5) hl) (qa (by omega)) (ql' (by omega))
        · have y1 : mt_tn t n i = i := by unfold mt_tn; rw [if_neg s]
          have y3 : mt_tm t n i = 1 := by unfold mt_tm; rw [if_neg s]
          rw [y1] at g' hw hc
          refine ih N i d 0 _ _ a l τ f e19 i0 i1 d0 d6 hF hN hS' (lo' τ lo) wa wl ha hl ?_ g' hw hc
          unfold mt_set mt_st
          rw [if_pos rfl, if_pos rfl, y3, Int.one_mul]
          intro hcm
          unfold mt_rep
          rw [if_pos rfl]
          exact mt_both_c (by omega) h5 ha hl (qa (by omega)) (ql (by omega))
      intro N i d need S C a l τ f e19 i0 i1 d0 d6 hF hN hS lo wa wl ha hl qd g hw hc
      obtain ⟨N, rfl⟩ : ∃ N', N = N' + 1 := ⟨N - 1, by omega⟩
      have f218 : ∀ j, τ 218 (100 * w + j) = t j := fun j => by rw [f.1 218 (by omega) (by omega) (by omega) (by omega) (by omega) (by omega) (by omega), q1 218 (by omega), htj]
      have f219 : τ 219 w = n := by rw [f.1 219 (by omega) (by omega) (by omega) (by omega) (by omega) (by omega) (by omega), q1 219 (by omega), en]
      have e20 : τ 215 20 = w := by rw [f.2.1 20 (by omega) (by omega), q20]
      have th1 : τ 215 2 = h := by rw [f.2.1 2 (by omega) (by omega), q2]
      unfold mt_ct at hc
      unfold mt_we at hw
      unfold f_X12_makes_u24
      rw [e19, f219]
      refine fun _ => ⟨w0, w1, fun _ => ⟨fun c => ?_, fun c => ?_⟩⟩
      · rw [if_pos c] at hc hw
        rcases mt_gr_c n0 i0 g with z | z | z | z | z
        · have d00 : d = 0 := z.2.2
          subst d00
          refine KE τ a l f wa wl ha hl ?_
          rw [← hc, ← hw]
          exact qd
        all_goals omega
      rw [if_neg c] at hc hw
      refine s_read w0 w1 i0 n1 e19 e20 f219 ?_
      have ui := uc i i0
      have ci : mt_c t n i = t i := by unfold mt_c; rw [if_pos (by omega)]
      have uti : (t i = 40 ∨ t i = 41 ∨ t i = 120 ∨ t i = 117 ∨ (65 ≤ t i ∧ t i < 81)) ∧ mt_u t n i = t i := by
        rcases mt_gr_c n0 i0 g with z | z | z | z | z <;> constructor <;> omega
      obtain ⟨tk, eu⟩ := uti
      rw [show (fun j => τ 218 (100 * w + j)) = t by funext j; exact f218 j, eu, e19]
      refine fun _ _ => ⟨mt_I (by omega) (by omega), fun σ7 g7 => ⟨fun _ => ?_, fun c42 => absurd c42 (by omega)⟩⟩
      have f7 : mt_fp 19 (fun _ => False) τ σ7 := by rw [g7]; exact mt_fp_19
      have r7 : σ7 215 19 = i + 1 := by rw [g7, ml_up_same]
      refine s_goesOn h2 h5 d0 d6 (by rw [f7.2.1 2 (by omega) (by omega), th1]) ha hl (mt_mv_p h5 f7 (by simp) wa) (mt_mv_p h5 f7 (by simp) wl) (fun σ9 f9 w9 => ?_)
      have fR : mt_fp 19 (fun m => m = 63 ∨ m = 16 + 2 * d) τ σ9 := mt_fp_t (mt_fp_w (fun m hm => hm.elim) f7) (mt_fp_q f9)
      have f' : mt_fp 19 (fun m => m = w ∨ 16 ≤ m) τ1 σ9 := mt_fp_t f (mt_fp_w (fun m hm => Or.inr (by omega)) fR)
      have r9 : σ9 215 19 = i + 1 := by rw [f9.2.1 19 (by omega) (by omega), r7]
      have th9 : σ9 215 2 = h := by rw [f'.2.1 2 (by omega) (by omega), q2]
      have hM9 := mt_both_M h5 ha hl
      have lo9 : ∀ k, 0 ≤ k → k < d → ∃ x, mt_mv h σ9 (16 + 2 * k) x ∧ mt_M h x ∧ (C k ≤ mt_mst → mt_weq h x (S k)) := fun k k0 k1 => by
        obtain ⟨x, x1, x2, x3⟩ := lo k k0 k1
        exact ⟨x, mt_mv_p h5 fR (by omega) x1, x2, x3⟩
      obtain ⟨hSd, oSd, hCd⟩ := hS d d0 (by omega)
      -- one place of the lasts is written, the rest stays
      have keep : ∀ (σ : ml_St), mt_mf (17 + 2 * d) σ9 σ → (mt_fp 19 (fun m => m = w ∨ 16 ≤ m) τ1 σ ∧ σ 215 19 = i + 1 ∧ (∀ k, 0 ≤ k → k < d → ∃ x, mt_mv h σ (16 + 2 * k) x ∧ mt_M h x ∧ (C k ≤ mt_mst → mt_weq h x (S k))) ∧ mt_mv h σ (16 + 2 * d) (mt_both h a l)) := by
        intro σ fs
        refine ⟨mt_fp_t f' (mt_fp_mf (Or.inr (by omega)) fs), by rw [fs.2.1 19 (by omega), r9], fun k k0 k1 => ?_, mt_mv_f h5 fs (by omega) w9⟩
        obtain ⟨x, x1, x2, x3⟩ := lo9 k k0 k1
        exact ⟨x, mt_mv_f h5 fs (by omega) x1, x2, x3⟩
      have SGN : (t i = 120 ∨ t i = 117) → f_X12_makes_u166 Q (f_X12_makes_u24 Q (f_X12_makes_u224 Q) N) σ9 w d (t i) := by
        intro hcc
        rcases mt_gr_c n0 i0 g with z | z | z | z | z
        · omega
        · omega
        · omega
        · obtain ⟨z1, z2, z3, z4, z5, z6, z7, z8⟩ := z
          rw [if_neg (by omega), if_neg (by omega), if_pos hcc] at hc hw
          have ci1 : mt_u t n (i + 1) = t (i + 1) := by
            have := uc (i + 1) (by omega)
            have : mt_c t n (i + 1) = t (i + 1) := by unfold mt_c; rw [if_pos z3]
            omega
          have e20' : σ9 215 20 = w := by rw [f'.2.1 20 (by omega) (by omega), q20]
          have f219' : σ9 219 w = n := by rw [fR.1 219 (by omega) (by omega) (by omega) (by omega) (by omega) (by omega) (by omega), f219]
          have go : ∀ s2, (s2 = 0 → t i ≠ 120) → (s2 ≠ 0 → t i = 120) → f_X12_makes_u184 Q (f_X12_makes_u24 Q (f_X12_makes_u224 Q) N) σ9 w d (17 + 2 * d) s2 := by
            intro s2 h0 h1
            unfold f_X12_makes_u184
            refine s_read w0 w1 (by omega) n1 r9 e20' f219' ?_
            rw [show (fun j => σ9 218 (100 * w + j)) = t by funext j; rw [fR.1 218 (by omega) (by omega) (by omega) (by omega) (by omega) (by omega) (by omega)]; exact f218 j, ci1]
            refine fun _ => ⟨mt_I (by omega) (by omega), s_sign h2 h5 ⟨by omega, by omega⟩ th9 (by omega) (by omega) (fun σ3 f3 w3 => ?_)⟩
            obtain ⟨x1, x2, x3, x4⟩ := keep σ3 f3
            rw [x2]
            refine fun _ => ⟨mt_I (by omega) (by omega), fun σ6 g6 => ?_⟩
            have f6 : mt_fp 19 (fun _ => False) σ3 σ6 := by rw [g6]; exact mt_fp_19
            unfold f_X12_makes_u221
            have eit : (if s2 = 0 then (1 : Int) else 0) = if t i = 117 then 1 else 0 := by
              by_cases q : s2 = 0
              · rw [if_pos q, if_pos (by have := h0 q; omega)]
              · rw [if_neg q, if_neg (by have := h1 q; omega)]
            rw [eit] at w3
            refine AF N (i + 2) d S C (mt_both h a l) _ (S d) (mt_sgn h (t (i + 1) - 48) (if t i = 117 then 1 else 0)) (C d) (mt_one (t i)) σ6 (mt_fp_t x1 (mt_fp_w (fun m hm => hm.elim) f6)) (by rw [g6, ml_up_same]; omega) (by omega) (by omega) d0 d6 z7 (by omega) (by omega) (fun k k0 k1 => hS k k0 (by omega)) (fun k k0 k1 => ?_) hSd oSd (mt_sgn_M h5 (by omega) (by omega)) (mt_sgn_ok h5) hCd (by unfold mt_one; omega) (mt_mv_p h5 f6 (by simp) x4) (mt_mv_p h5 f6 (by simp) w3) hM9 (mt_sgn_M h5 (by omega) (by omega)) qd (fun _ => mt_weq_r) z8 hw hc
            obtain ⟨x, y1, y2, y3⟩ := x3 k k0 k1
            exact ⟨x, mt_mv_p h5 f6 (by simp) y1, y2, y3⟩
          unfold f_X12_makes_u166
          exact ⟨mt_I (by omega) (by omega), mt_I (by omega) (by omega), fun c => go 0 (fun _ => c) (fun c => absurd rfl c), fun c => go 1 (fun c => absurd c (by omega)) (fun _ => c)⟩
        · omega
      refine ⟨fun c40 => ⟨fun c41 => ⟨fun c120 => SGN (Or.inl c120), fun c120 => ⟨fun c117 => ?_, fun c117 => SGN (Or.inr c117)⟩⟩, fun c41 => ?_⟩, fun c40 => ?_⟩
      · -- a letter
        rcases mt_gr_c n0 i0 g with z | z | z | z | z
        · omega
        · omega
        · omega
        · omega
        · obtain ⟨z1, z2, z3, z4, z5, z6⟩ := z
          rw [if_neg (by omega), if_neg (by omega), if_neg (by omega)] at hc hw
          obtain ⟨m1, m2, m3, x, m4, m5, m6⟩ := wm (t i - 65) (by omega) z4
          have m4' : mt_mv h σ9 (t i - 65) x := by
            have m7 : mt_mv h τ1 (t i - 65) x := ⟨fun e e0 e1 => by rw [q1 227 (by omega), q1 228 (by omega)]; exact m4.1 e e0 e1, by rw [q1 229 (by omega), q1 230 (by omega), q1 231 (by omega)]; exact m4.2⟩
            exact mt_mv_p h5 f' (by omega) m7
          refine ⟨mt_I (by omega) (by omega), mt_I (by omega) (by omega), mt_I (by omega) (by omega), s_copies h2 h5 ⟨by omega, by omega⟩ ⟨by omega, by omega⟩ (by omega) th9 m4' (fun σ17 f17 w17 => ?_)⟩
          obtain ⟨x1, x2, x3, x4⟩ := keep σ17 f17
          unfold f_X12_makes_u221
          exact AF N (i + 1) d S C (mt_both h a l) x (S d) (mk (t i - 65)) (C d) (T (t i - 65)) σ17 x1 x2 (by omega) (by omega) d0 d6 z5 (by omega) (by omega) (fun k k0 k1 => hS k k0 (by omega)) x3 hSd oSd m1 m2 hCd m3 x4 w17 hM9 m5 qd m6 z6 hw hc
      · -- a closing
        rcases mt_gr_c n0 i0 g with z | z | z | z | z
        · omega
        · omega
        · obtain ⟨z1, z2, z3, z4, z5, z6⟩ := z
          rw [if_neg (by omega), if_pos c41] at hc hw
          refine ⟨mt_I (by omega) (by omega), fun y18 e18 => ?_⟩
          have e18 : y18 = d - 1 := by omega
          subst e18
          refine ⟨mt_I (by omega) (by omega), mt_I (by omega) (by omega), mt_I (by omega) (by omega), mt_I (by omega) (by omega), ?_⟩
          rw [show 18 + 2 * (d - 1) = 16 + 2 * d by omega, show 17 + 2 * (d - 1) = 15 + 2 * d by omega]
          refine s_copies h2 h5 ⟨by omega, by omega⟩ ⟨by omega, by omega⟩ (by omega) th9 w9 (fun σ23 f23 w23 => ?_)
          unfold f_X12_makes_u221
          obtain ⟨x, p1, p2, p3⟩ := lo9 (d - 1) (by omega) (by omega)
          obtain ⟨p4, p5, p6⟩ := hS (d - 1) (by omega) (by omega)
          refine AF N (i + 1) (d - 1) S C x (mt_both h a l) (S (d - 1)) (S d) (C (d - 1)) (C d) σ23 (mt_fp_t f' (mt_fp_mf (Or.inr (by omega)) f23)) (by rw [f23.2.1 19 (by omega), r9]) (by omega) (by omega) (by omega) (by omega) z5 (by omega) (by omega) (fun k k0 k1 => hS k k0 (by omega)) (fun k k0 k1 => ?_) p4 p5 hSd oSd p6 hCd (mt_mv_f h5 f23 (by omega) p1) ?_ p2 hM9 p3 qd z6 hw hc
          · obtain ⟨y, y1, y2, y3⟩ := lo9 k k0 (by omega)
            exact ⟨y, mt_mv_f h5 f23 (by omega) y1, y2, y3⟩
          · rw [show 17 + 2 * (d - 1) = 15 + 2 * d by omega]; exact w23
        · omega
        · omega
      · -- an opening
        rcases mt_gr_c n0 i0 g with z | z | z | z | z
        · omega
        · obtain ⟨z1, z2, z3, z4⟩ := z
          rw [if_pos c40] at hc hw
          refine ⟨mt_I (by omega) (by omega), mt_I (by omega) (by omega), s_straight h2 h5 ⟨by omega, by omega⟩ th9 (fun σ26 f26 w26 => ⟨mt_I (by omega) (by omega), fun y27 e27 => ?_⟩)⟩
          subst e27
          obtain ⟨x1, x2, x3, x4⟩ := keep σ26 f26
          refine ⟨mt_I (by omega) (by omega), mt_I (by omega) (by omega), s_straight h2 h5 ⟨by omega, by omega⟩ (by rw [f26.2.1 2 (by omega), th9]) (fun σ30 f30 w30 => ⟨mt_I (by omega) (by omega), mt_I (by omega) (by omega), ?_⟩)⟩
          refine s_straight h2 h5 ⟨by omega, by omega⟩ (by rw [f30.2.1 2 (by omega), f26.2.1 2 (by omega), th9]) (fun σ33 f33 w33 => ?_)
          unfold f_X12_makes_u221
          refine ih N (i + 1) (d + 1) 1 _ _ (mt_str h) (mt_str h) σ33 (mt_fp_t x1 (mt_fp_t (mt_fp_mf (Or.inr (by omega)) f30) (mt_fp_mf (Or.inr (by omega)) f33))) (by rw [f33.2.1 19 (by omega), f30.2.1 19 (by omega), x2]) (by omega) (by omega) (by omega) (by omega) (by omega) (by omega) (fun k k0 k1 => ?_) (fun k k0 k1 => ?_) (mt_mv_f h5 f33 (by omega) w30) w33 (mt_str_M h5) (mt_str_M h5) ?_ z4 hw hc
          · unfold mt_set mt_st
            by_cases q : k = d + 1
            · rw [if_pos q, if_pos q]; exact ⟨mt_str_M h5, mt_str_ok h5, Int.le_refl 0⟩
            · rw [if_neg q, if_neg q]; exact hS k k0 (by omega)
          · unfold mt_set mt_st
            rw [if_neg (by omega), if_neg (by omega)]
            by_cases q : k = d
            · subst q
              exact ⟨_, mt_mv_f h5 f33 (by omega) (mt_mv_f h5 f30 (by omega) x4), hM9, qd⟩
            · obtain ⟨y, y1, y2, y3⟩ := x3 k k0 (by omega)
              exact ⟨y, mt_mv_f h5 f33 (by omega) (mt_mv_f h5 f30 (by omega) y1), y2, y3⟩
          · unfold mt_set
            rw [if_pos rfl]
            exact fun _ => mt_id h2 h5 (mt_str_M h5) (mt_str_ok h5)
        · omega
        · omega
        · omega
  unfold f_X12_makes f_X12_makes_u0
  intro σ1 g1 σ2 g2
  rw [hτ1] at g1
  have f2 : mt_fp 19 (fun m => m = w ∨ 16 ≤ m) τ1 σ2 := by rw [g2, g1]; exact mt_fp_19
  have th2 : σ2 215 2 = h := by rw [f2.2.1 2 (by omega) (by omega), q2]
  refine s_straight h2 h5 ⟨by omega, by omega⟩ th2 (fun σ3 f3 w3 => ?_)
  refine s_straight h2 h5 ⟨by omega, by omega⟩ (by rw [f3.2.1 2 (by omega), th2]) (fun σ4 f4 w4 => ⟨n.toNat + 3, ?_⟩)
  refine L (n.toNat + 1) _ 0 0 1 (fun _ => mt_str h) (fun _ => 0) (mt_str h) (mt_str h) σ4 (mt_fp_t f2 (mt_fp_t (mt_fp_mf (Or.inr (by omega)) f3) (mt_fp_mf (Or.inr (by omega)) f4))) (by rw [f4.2.1 19 (by omega), f3.2.1 19 (by omega), g2, ml_up_same]) (by omega) n0 (by omega) (by omega) (by omega) (by omega) (fun k k0 k1 => ⟨mt_str_M h5, mt_str_ok h5, by omega⟩) (fun k k0 k1 => absurd k1 (by omega)) (mt_mv_f h5 f4 (by omega) w3) w4 (mt_str_M h5) (mt_str_M h5) (fun _ => mt_id h2 h5 (mt_str_M h5) (mt_str_ok h5)) g rfl rfl
/-! the words of a lane: their TEXTS, what they make, how many signs (pure) -/
def mt_teq (n : Int) (t t' : Int → Int) : Prop := ∀ j, 0 ≤ j → j < n → t j = t' j
theorem mt_c_c {n i : Int} {t t' : Int → Int} (e : mt_teq n t t') (i0 : 0 ≤ i) : mt_c t n i = mt_c t' n i := by
  unfold mt_c; split
  · exact e i i0 (by omega)
  · rfl
theorem mt_ds_c {n : Int} {t t' : Int → Int} (e : mt_teq n t t') : ∀ (F : Nat) (i : Int), 0 ≤ i → mt_ds t n F i = mt_ds t' n F i := by
  intro F
  induction F with
  | zero => intro i _; rfl
  | succ F ih => intro i i0; rw [mt_ds_s, mt_ds_s, mt_c_c e i0, ih (i + 1) (by omega)]
theorem mt_s42_c {n i : Int} {t t' : Int → Int} (e : mt_teq n t t') (i0 : 0 ≤ i) : (i < n ∧ t i = 42) ↔ (i < n ∧ t' i = 42) := by
  constructor
  · rintro ⟨a, b⟩; exact ⟨a, by rw [← e i i0 a]; exact b⟩
  · rintro ⟨a, b⟩; exact ⟨a, by rw [e i i0 a]; exact b⟩
theorem mt_tf_c {n i : Int} {t t' : Int → Int} (e : mt_teq n t t') (i0 : 0 ≤ i) : mt_tf t n i = mt_tf t' n i := by
  have d := mt_ds_c e 9 (i + 1) (by omega)
  have r := (mt_ds_r (t := t') (n := n) 9 (i + 1)).1
  unfold mt_tf
  rw [d, mt_c_c e (by omega)]
  by_cases s : i < n ∧ t i = 42
  · rw [if_pos s, if_pos ((mt_s42_c e i0).1 s)]
  · rw [if_neg s, if_neg (fun q => s ((mt_s42_c e i0).2 q))]
theorem mt_tn_c {n i : Int} {t t' : Int → Int} (e : mt_teq n t t') (i0 : 0 ≤ i) : mt_tn t n i = mt_tn t' n i := by
  have d := mt_ds_c e 9 (i + 1) (by omega)
  unfold mt_tn
  rw [d]
  by_cases s : i < n ∧ t i = 42
  · rw [if_pos s, if_pos ((mt_s42_c e i0).1 s)]
  · rw [if_neg s, if_neg (fun q => s ((mt_s42_c e i0).2 q))]
theorem mt_vl_c {t t' : Int → Int} {j : Int} : ∀ m : Nat, (∀ k : Nat, k < m → t (j + k) = t' (j + k)) → mt_vl t j m = mt_vl t' j m := by
  intro m
  induction m with
  | zero => intro _; rfl
  | succ m ih => intro h; unfold mt_vl; rw [ih (fun k hk => h k (by omega)), h m (by omega)]
theorem mt_tm_c {n i : Int} {t t' : Int → Int} (e : mt_teq n t t') (i0 : 0 ≤ i) : mt_tm t n i = mt_tm t' n i := by
  have d := mt_ds_c e 9 (i + 1) (by omega)
  have r := (mt_ds_r (t := t') (n := n) 9 (i + 1)).1
  have dd := mt_ds_d (t := t') (n := n) 9 (i + 1)
  unfold mt_tm
  rw [d]
  by_cases s : i < n ∧ t i = 42
  · rw [if_pos s, if_pos ((mt_s42_c e i0).1 s)]
    exact mt_vl_c _ (fun k hk => e _ (by omega) (dd k (by omega)).1)
  · rw [if_neg s, if_neg (fun q => s ((mt_s42_c e i0).2 q))]
theorem mt_gr_t {n h w : Int} {t t' : Int → Int} (e : mt_teq n t t') : ∀ (F : Nat) (i d need : Int), 0 ≤ i → mt_gr t n h w F i d need = mt_gr t' n h w F i d need := by
  intro F
  induction F with
  | zero => intro i d need _; rfl
  | succ F ih =>
    intro i d need i0
    unfold mt_gr
    by_cases c : n ≤ i
    · rw [if_pos c, if_pos c]
    · have ti : t i = t' i := e i i0 (by omega)
      have r1 : 0 ≤ mt_tn t' n (i + 1) := by
        have := (mt_ds_r (t := t') (n := n) 9 (i + 1 + 1)).1
        unfold mt_tn; split <;> omega
      have r2 : 0 ≤ mt_tn t' n (i + 2) := by
        have := (mt_ds_r (t := t') (n := n) 9 (i + 2 + 1)).1
        unfold mt_tn; split <;> omega
      rw [if_neg c, if_neg c, ti, mt_c_c e (show 0 ≤ i + 1 by omega), mt_tf_c e (show 0 ≤ i + 1 by omega), mt_tf_c e (show 0 ≤ i + 2 by omega), mt_tn_c e (show 0 ≤ i + 1 by omega), mt_tn_c e (show 0 ≤ i + 2 by omega), ih (i + 1) _ _ (by omega), ih _ (d - 1) 0 r1, ih _ d 0 r1, ih _ d 0 r2]
theorem mt_we_t {n h w : Int} {t t' : Int → Int} {mk mk' : Int → Int → Int} (n0 : 0 ≤ n) (e : mt_teq n t t') (em : ∀ v, 0 ≤ v → v < w → mk v = mk' v) : ∀ (F : Nat) (i d need : Int) (S : Int → Int → Int), 0 ≤ i → i ≤ n → mt_gr t n h w F i d need = 0 → mt_we t n h mk F i d S = mt_we t' n h mk' F i d S := by
  intro F
  induction F with
  | zero => intro i d need S _ _ _; rfl
  | succ F ih =>
    intro i d need S i0 i1 g
    unfold mt_we
    by_cases c : n ≤ i
    · rw [if_pos c, if_pos c]
    have ti : t i = t' i := e i i0 (by omega)
    rw [if_neg c, if_neg c, ← ti, ← mt_tm_c e (show 0 ≤ i + 1 by omega), ← mt_tm_c e (show 0 ≤ i + 2 by omega), ← mt_tn_c e (show 0 ≤ i + 1 by omega), ← mt_tn_c e (show 0 ≤ i + 2 by omega)]
    rcases mt_gr_c n0 i0 g with z | z | z | z | z
    · omega
    · rw [if_pos z.2.1, if_pos z.2.1]; exact ih _ _ 1 _ (by omega) (by omega) z.2.2.2
    · obtain ⟨z1, z2, z3, z4, z5, z6⟩ := z
      have r := mt_tn_r (t := t) (n := n) (i := i + 1) (by omega)
      rw [if_neg (show ¬ t i = 40 by omega), if_neg (show ¬ t i = 40 by omega), if_pos z2, if_pos z2]; exact ih _ _ 0 _ (by omega) r.2 z6
    · obtain ⟨z1, z2, z3, z4, z5, z6, z7, z8⟩ := z
      have r := mt_tn_r (t := t) (n := n) (i := i + 2) (by omega)
      rw [if_neg (show ¬ t i = 40 by omega), if_neg (show ¬ t i = 40 by omega), if_neg (show ¬ t i = 41 by omega), if_neg (show ¬ t i = 41 by omega), if_pos z2, if_pos z2, ← e (i + 1) (by omega) z3]; exact ih _ _ 0 _ (by omega) r.2 z8
    · obtain ⟨z1, z2, z3, z4, z5, z6⟩ := z
      have r := mt_tn_r (t := t) (n := n) (i := i + 1) (by omega)
      rw [if_neg (show ¬ t i = 40 by omega), if_neg (show ¬ t i = 40 by omega), if_neg (show ¬ t i = 41 by omega), if_neg (show ¬ t i = 41 by omega), if_neg (show ¬ (t i = 120 ∨ t i = 117) by omega), if_neg (show ¬ (t i = 120 ∨ t i = 117) by omega), em (t i - 65) (by omega) z4]; exact ih _ _ 0 _ (by omega) r.2 z6
theorem mt_ct_t {n h w : Int} {t t' sg cx cx' : Int → Int} (n0 : 0 ≤ n) (e : mt_teq n t t') (em : ∀ v, 0 ≤ v → v < w → cx v = cx' v) : ∀ (F : Nat) (i d need : Int) (S : Int → Int), 0 ≤ i → i ≤ n → mt_gr t n h w F i d need = 0 → mt_ct t n sg cx F i d S = mt_ct t' n sg cx' F i d S := by
  intro F
  induction F with
  | zero => intro i d need S _ _ _; rfl
  | succ F ih =>
    intro i d need S i0 i1 g
    unfold mt_ct
    by_cases c : n ≤ i
    · rw [if_pos c, if_pos c]
    have ti : t i = t' i := e i i0 (by omega)
    rw [if_neg c, if_neg c, ← ti, ← mt_tm_c e (show 0 ≤ i + 1 by omega), ← mt_tm_c e (show 0 ≤ i + 2 by omega), ← mt_tn_c e (show 0 ≤ i + 1 by omega), ← mt_tn_c e (show 0 ≤ i + 2 by omega)]
    rcases mt_gr_c n0 i0 g with z | z | z | z | z
    · omega
    · rw [if_pos z.2.1, if_pos z.2.1]; exact ih _ _ 1 _ (by omega) (by omega) z.2.2.2
    · obtain ⟨z1, z2, z3, z4, z5, z6⟩ := z
      have r := mt_tn_r (t := t) (n := n) (i := i + 1) (by omega)
      rw [if_neg (show ¬ t i = 40 by omega), if_neg (show ¬ t i = 40 by omega), if_pos z2, if_pos z2]; exact ih _ _ 0 _ (by omega) r.2 z6
    · obtain ⟨z1, z2, z3, z4, z5, z6, z7, z8⟩ := z
      have r := mt_tn_r (t := t) (n := n) (i := i + 2) (by omega)
      rw [if_neg (show ¬ t i = 40 by omega), if_neg (show ¬ t i = 40 by omega), if_neg (show ¬ t i = 41 by omega), if_neg (show ¬ t i = 41 by omega), if_pos z2, if_pos z2]; exact ih _ _ 0 _ (by omega) r.2 z8
    · obtain ⟨z1, z2, z3, z4, z5, z6⟩ := z
      have r := mt_tn_r (t := t) (n := n) (i := i + 1) (by omega)
      rw [if_neg (show ¬ t i = 40 by omega), if_neg (show ¬ t i = 40 by omega), if_neg (show ¬ t i = 41 by omega), if_neg (show ¬ t i = 41 by omega), if_neg (show ¬ (t i = 120 ∨ t i = 117) by omega), if_neg (show ¬ (t i = 120 ∨ t i = 117) by omega), em (t i - 65) (by omega) z4]; exact ih _ _ 0 _ (by omega) r.2 z6
theorem mt_we_ok {n h w : Int} {t : Int → Int} {mk : Int → Int → Int} (n0 : 0 ≤ n) (h5 : h ≤ 5) (em : ∀ v, 0 ≤ v → v < w → mt_M h (mk v) ∧ mt_ok h (mk v)) : ∀ (F : Nat) (i d need : Int) (S : Int → Int → Int), 0 ≤ i → i ≤ n → 0 ≤ d → (∀ k, 0 ≤ k → k ≤ d → mt_M h (S k) ∧ mt_ok h (S k)) → mt_gr t n h w F i d need = 0 → mt_M h (mt_we t n h mk F i d S) ∧ mt_ok h (mt_we t n h mk F i d S) := by
  intro F
  induction F with
  | zero => intro i d need S _ _ d0 hS _; exact hS 0 (by omega) d0
  | succ F ih =>
    intro i d need S i0 i1 d0 hS g
    have st : ∀ (d' : Int) (it : Int → Int), 0 ≤ d' → d' ≤ d → mt_M h it → mt_ok h it → ∀ tm k, 0 ≤ k → k ≤ d' → mt_M h (mt_set S d' (mt_both h (S d') (mt_rep h tm it)) k) ∧ mt_ok h (mt_set S d' (mt_both h (S d') (mt_rep h tm it)) k) := by
      intro d' it e0 e1 m1 m2 tm k k0 k1
      unfold mt_set
      split
      · exact ⟨mt_both_M h5 (hS d' e0 e1).1 (mt_rep_M h5 m1), mt_both_ok h5 (hS d' e0 e1).2.2.2.1⟩
      · exact hS k k0 (by omega)
    unfold mt_we
    rcases mt_gr_c n0 i0 g with z | z | z | z | z
    · rw [if_pos z.1]; exact hS 0 (by omega) d0
    · rw [if_neg (by omega), if_pos z.2.1]
      refine ih _ _ 1 _ (by omega) (by omega) (by omega) (fun k k0 k1 => ?_) z.2.2.2
      unfold mt_set; split
      · exact ⟨mt_str_M h5, mt_str_ok h5⟩
      · exact hS k k0 (by omega)
    · obtain ⟨z1, z2, z3, z4, z5, z6⟩ := z
      have r := mt_tn_r (t := t) (n := n) (i := i + 1) (by omega)
      rw [if_neg (by omega), if_neg (by omega), if_pos z2]
      exact ih _ _ 0 _ (by omega) r.2 (by omega) (st (d - 1) (S d) (by omega) (by omega) (hS d d0 (by omega)).1 (hS d d0 (by omega)).2 _) z6
    · obtain ⟨z1, z2, z3, z4, z5, z6, z7, z8⟩ := z
      have r := mt_tn_r (t := t) (n := n) (i := i + 2) (by omega)
      rw [if_neg (by omega), if_neg (by omega), if_neg (by omega), if_pos z2]
      exact ih _ _ 0 _ (by omega) r.2 d0 (st d _ d0 (by omega) (mt_sgn_M h5 (by omega) (by omega)) (mt_sgn_ok h5) _) z8
    · obtain ⟨z1, z2, z3, z4, z5, z6⟩ := z
      have r := mt_tn_r (t := t) (n := n) (i := i + 1) (by omega)
      rw [if_neg (by omega), if_neg (by omega), if_neg (by omega), if_neg (by omega)]
      have m := em (t i - 65) (by omega) z4
      exact ih _ _ 0 _ (by omega) r.2 d0 (st d _ d0 (by omega) m.1 m.2 _) z6
/-- all words: what they make, and their counts -/
def mt_mkf (h : Int) (T : Int → Int → Int) (sz : Int → Int) : Nat → (Int → Int → Int)
  | 0 => fun _ => mt_str h
  | w + 1 => mt_set (mt_mkf h T sz w) w (mt_wo (T w) (sz w) h (mt_mkf h T sz w))
def mt_cf (sg : Int → Int) (T : Int → Int → Int) (sz : Int → Int) : Nat → (Int → Int)
  | 0 => fun _ => 0
  | w + 1 => mt_st (mt_cf sg T sz w) w (mt_ctw (T w) (sz w) sg (mt_cf sg T sz w))
theorem mt_mkf_lo {h : Int} {T : Int → Int → Int} {sz : Int → Int} : ∀ (a b : Nat) (v : Int), v < a → a ≤ b → mt_mkf h T sz b v = mt_mkf h T sz a v := by
  intro a b
  induction b with
  | zero => intro v hv ha; have : a = 0 := by omega
            subst this; rfl
  | succ b ih =>
    intro v hv ha
    by_cases c : a = b + 1
    · subst c; rfl
    · rw [← ih v hv (by omega)]
      show mt_set (mt_mkf h T sz b) b _ v = _
      unfold mt_set; rw [if_neg (by omega)]
theorem mt_cf_lo {sg : Int → Int} {T : Int → Int → Int} {sz : Int → Int} : ∀ (a b : Nat) (v : Int), v < a → a ≤ b → mt_cf sg T sz b v = mt_cf sg T sz a v := by
  intro a b
  induction b with
  | zero => intro v hv ha; have : a = 0 := by omega
            subst this; rfl
  | succ b ih =>
    intro v hv ha
    by_cases c : a = b + 1
    · subst c; rfl
    · rw [← ih v hv (by omega)]
      show mt_st (mt_cf sg T sz b) b _ v = _
      unfold mt_st; rw [if_neg (by omega)]
def mt_mk (h : Int) (T : Int → Int → Int) (sz : Int → Int) : Int → Int → Int := mt_mkf h T sz 16
def mt_cn (sg : Int → Int) (T : Int → Int → Int) (sz : Int → Int) : Int → Int := mt_cf sg T sz 16
/-- a good TEXT for word w -/
def mt_good (h w : Int) (t : Int → Int) (n : Int) : Prop := 1 ≤ n ∧ n ≤ 100 ∧ (∀ j, 0 ≤ j → j < n → ml_I8 (t j)) ∧ mt_gr t n h w (n.toNat + 1) 0 0 1 = 0
theorem mt_good_c {h w n : Int} {t t' : Int → Int} (e : mt_teq n t t') (g : mt_good h w t n) : mt_good h w t' n := ⟨g.1, g.2.1, fun j j0 j1 => by rw [← e j j0 j1]; exact g.2.2.1 j j0 j1, by rw [← mt_gr_t e _ _ _ _ (Int.le_refl 0)]; exact g.2.2.2⟩
theorem mt_mk_e {h : Int} {T : Int → Int → Int} {sz : Int → Int} {w : Nat} (hw : w < 16) (g : mt_good h w (T w) (sz w)) : mt_mk h T sz w = mt_wo (T w) (sz w) h (mt_mk h T sz) := by
  unfold mt_mk
  rw [mt_mkf_lo (w + 1) 16 w (by omega) (by omega)]
  show mt_set (mt_mkf h T sz w) w (mt_wo (T w) (sz w) h (mt_mkf h T sz w)) w = _
  unfold mt_set
  rw [if_pos rfl]
  exact mt_we_t (w := w) (by have := g.1; omega) (fun _ _ _ => rfl) (fun v v0 v1 => (mt_mkf_lo w 16 v v1 (by omega)).symm) _ _ _ 1 _ (Int.le_refl 0) (by have := g.1; omega) g.2.2.2
theorem mt_cn_e {h : Int} {sg : Int → Int} {T : Int → Int → Int} {sz : Int → Int} {w : Nat} (hw : w < 16) (g : mt_good h w (T w) (sz w)) : mt_cn sg T sz w = mt_ctw (T w) (sz w) sg (mt_cn sg T sz) := by
  unfold mt_cn
  rw [mt_cf_lo (w + 1) 16 w (by omega) (by omega)]
  show mt_st (mt_cf sg T sz w) w (mt_ctw (T w) (sz w) sg (mt_cf sg T sz w)) w = _
  unfold mt_st
  rw [if_pos rfl]
  exact mt_ct_t (h := h) (w := w) (by have := g.1; omega) (fun _ _ _ => rfl) (fun v v0 v1 => (mt_cf_lo w 16 v v1 (by omega)).symm) _ _ _ 1 _ (Int.le_refl 0) (by have := g.1; omega) g.2.2.2
theorem mt_mk_ok {h : Int} {T : Int → Int → Int} {sz : Int → Int} (h5 : h ≤ 5) : ∀ (w : Nat), w < 16 → (∀ v : Nat, v ≤ w → mt_good h v (T v) (sz v)) → mt_M h (mt_mk h T sz w) ∧ mt_ok h (mt_mk h T sz w) := by
  intro w
  induction w using Nat.strongRecOn with
  | ind w ih =>
    intro hw hg
    have g := hg w (Nat.le_refl w)
    rw [mt_mk_e hw g]
    refine mt_we_ok (w := w) (by have := g.1; omega) h5 (fun v v0 v1 => ?_) _ _ _ 1 _ (Int.le_refl 0) (by have := g.1; omega) (Int.le_refl 0) (fun k _ _ => ⟨mt_str_M h5, mt_str_ok h5⟩) g.2.2.2
    have := ih v.toNat (by omega) (by omega) (fun u hu => hg u (by omega))
    rw [show ((v.toNat : Nat) : Int) = v by omega] at this
    exact this
theorem mt_cn_0 {h : Int} {sg : Int → Int} {T : Int → Int → Int} {sz : Int → Int} (s0 : ∀ c, 0 ≤ sg c) : ∀ (w : Nat), w < 16 → (∀ v : Nat, v ≤ w → mt_good h v (T v) (sz v)) → 0 ≤ mt_cn sg T sz w := by
  intro w
  induction w using Nat.strongRecOn with
  | ind w ih =>
    intro hw hg
    have g := hg w (Nat.le_refl w)
    rw [mt_cn_e hw g]
    refine mt_ct_0 (h := h) (w := w) (by have := g.1; omega) s0 (fun v v0 v1 => ?_) _ _ _ 1 _ (Int.le_refl 0) (by have := g.1; omega) (Int.le_refl 0) (fun _ _ _ => Int.le_refl 0) g.2.2.2
    have := ih v.toNat (by omega) (by omega) (fun u hu => hg u (by omega))
    rw [show ((v.toNat : Nat) : Int) = v by omega] at this
    exact this
/-! a word written out: its signs in a row -/
def mt_wre (s P : Int) (E : Int → Int) (j : Int) : Int := if j < s then E j else E (s + (j - s) % (P - s))
def mt_wra (P : Int) (E e : Int → Int) (j : Int) : Int := if j < P then E j else e (j - P)
def mt_wsg (t : Int → Int) (i : Int) : Int := 2 * (t (i + 1) - 48) + (if t i = 117 then 1 else 0)
def mt_wr (t : Int → Int) (n : Int) (cx : Int → Int) (ex : Int → Int → Int) : Nat → Int → Int → (Int → Int) → Int → (Int → Int) → (Int → Int)
  | 0, _, _, _, _, E => E
  | F + 1, i, d, U, P, E =>
    if n ≤ i then E
    else if t i = 40 then mt_wr t n cx ex F (i + 1) (d + 1) (mt_st U (d + 1) P) P E
    else if t i = 41 then mt_wr t n cx ex F (mt_tn t n (i + 1)) (d - 1) U (U d + mt_tm t n (i + 1) * (P - U d)) (mt_wre (U d) P E)
    else if t i = 120 ∨ t i = 117 then mt_wr t n cx ex F (mt_tn t n (i + 2)) d U (P + mt_tm t n (i + 2) * 1) (mt_wre P (P + 1) (mt_wra P E (fun _ => mt_wsg t i)))
    else mt_wr t n cx ex F (mt_tn t n (i + 1)) d U (P + mt_tm t n (i + 1) * cx (t i - 65)) (mt_wre P (P + cx (t i - 65)) (mt_wra P E (ex (t i - 65))))
def mt_wrw (t : Int → Int) (n : Int) (cx : Int → Int) (ex : Int → Int → Int) : Int → Int := mt_wr t n cx ex (n.toNat + 1) 0 0 (fun _ => 0) 0 (fun _ => 0)
theorem mt_wr_t {n h w : Int} {t t' cx cx' : Int → Int} {ex ex' : Int → Int → Int} (n0 : 0 ≤ n) (e : mt_teq n t t') (em : ∀ v, 0 ≤ v → v < w → cx v = cx' v ∧ ex v = ex' v) : ∀ (F : Nat) (i d need : Int) (U : Int → Int) (P : Int) (E : Int → Int), 0 ≤ i → i ≤ n → mt_gr t n h w F i d need = 0 → mt_wr t n cx ex F i d U P E = mt_wr t' n cx' ex' F i d U P E := by
  intro F
  induction F with
  | zero => intro i d need U P E _ _ _; rfl
  | succ F ih =>
    intro i d need U P E i0 i1 g
    unfold mt_wr
    by_cases c : n ≤ i
    · rw [if_pos c, if_pos c]
    have ti : t i = t' i := e i i0 (by omega)
    rw [if_neg c, if_neg c, ← ti, ← mt_tm_c e (show 0 ≤ i + 1 by omega), ← mt_tm_c e (show 0 ≤ i + 2 by omega), ← mt_tn_c e (show 0 ≤ i + 1 by omega), ← mt_tn_c e (show 0 ≤ i + 2 by omega)]
    rcases mt_gr_c n0 i0 g with z | z | z | z | z
    · omega
    · rw [if_pos z.2.1, if_pos z.2.1]; exact ih _ _ 1 _ _ _ (by omega) (by omega) z.2.2.2
    · obtain ⟨z1, z2, z3, z4, z5, z6⟩ := z
      have r := mt_tn_r (t := t) (n := n) (i := i + 1) (by omega)
      rw [if_neg (show ¬ t i = 40 by omega), if_neg (show ¬ t i = 40 by omega), if_pos z2, if_pos z2]; exact ih _ _ 0 _ _ _ (by omega) r.2 z6
    · obtain ⟨z1, z2, z3, z4, z5, z6, z7, z8⟩ := z
      have r := mt_tn_r (t := t) (n := n) (i := i + 2) (by omega)
      have es : mt_wsg t' i = mt_wsg t i := by unfold mt_wsg; rw [← ti, ← e (i + 1) (by omega) z3]
      rw [if_neg (show ¬ t i = 40 by omega), if_neg (show ¬ t i = 40 by omega), if_neg (show ¬ t i = 41 by omega), if_neg (show ¬ t i = 41 by omega), if_pos z2, if_pos z2, es]; exact ih _ _ 0 _ _ _ (by omega) r.2 z8
    · obtain ⟨z1, z2, z3, z4, z5, z6⟩ := z
      have r := mt_tn_r (t := t) (n := n) (i := i + 1) (by omega)
      obtain ⟨m1, m2⟩ := em (t i - 65) (by omega) z4
      rw [if_neg (show ¬ t i = 40 by omega), if_neg (show ¬ t i = 40 by omega), if_neg (show ¬ t i = 41 by omega), if_neg (show ¬ t i = 41 by omega), if_neg (show ¬ (t i = 120 ∨ t i = 117) by omega), if_neg (show ¬ (t i = 120 ∨ t i = 117) by omega), m1, m2]; exact ih _ _ 0 _ _ _ (by omega) r.2 z6
def mt_exf (T : Int → Int → Int) (sz : Int → Int) : Nat → (Int → Int → Int)
  | 0 => fun _ _ => 0
  | w + 1 => mt_set (mt_exf T sz w) w (mt_wrw (T w) (sz w) (mt_cf mt_one T sz w) (mt_exf T sz w))
def mt_ex (T : Int → Int → Int) (sz : Int → Int) : Int → Int → Int := mt_exf T sz 16
theorem mt_exf_lo {T : Int → Int → Int} {sz : Int → Int} : ∀ (a b : Nat) (v : Int), v < a → a ≤ b → mt_exf T sz b v = mt_exf T sz a v := by
  intro a b
  induction b with
  | zero => intro v hv ha; have : a = 0 := by omega
            subst this; rfl
  | succ b ih =>
    intro v hv ha
    by_cases c : a = b + 1
    · subst c; rfl
    · rw [← ih v hv (by omega)]
      show mt_set (mt_exf T sz b) b _ v = _
      unfold mt_set; rw [if_neg (by omega)]
theorem mt_ex_e {h : Int} {T : Int → Int → Int} {sz : Int → Int} {w : Nat} (hw : w < 16) (g : mt_good h w (T w) (sz w)) : mt_ex T sz w = mt_wrw (T w) (sz w) (mt_cn mt_one T sz) (mt_ex T sz) := by
  unfold mt_ex mt_cn
  rw [mt_exf_lo (w + 1) 16 w (by omega) (by omega)]
  show mt_set (mt_exf T sz w) w (mt_wrw (T w) (sz w) (mt_cf mt_one T sz w) (mt_exf T sz w)) w = _
  unfold mt_set
  rw [if_pos rfl]
  exact mt_wr_t (h := h) (w := w) (by have := g.1; omega) (fun _ _ _ => rfl) (fun v v0 v1 => ⟨(mt_cf_lo w 16 v v1 (by omega)).symm, (mt_exf_lo w 16 v v1 (by omega)).symm⟩) _ _ _ 1 _ _ _ (Int.le_refl 0) (by have := g.1; omega) g.2.2.2
theorem mt_cf_c {sg : Int → Int} {T T' : Int → Int → Int} {sz sz' : Int → Int} : ∀ (n : Nat), (∀ v : Nat, v < n → T v = T' v ∧ sz v = sz' v) → mt_cf sg T sz n = mt_cf sg T' sz' n := by
  intro n
  induction n with
  | zero => intro _; rfl
  | succ n ih => intro e; unfold mt_cf; rw [ih (fun v hv => e v (by omega)), (e n (by omega)).1, (e n (by omega)).2]
theorem mt_exf_c {T T' : Int → Int → Int} {sz sz' : Int → Int} : ∀ (n : Nat), (∀ v : Nat, v < n → T v = T' v ∧ sz v = sz' v) → mt_exf T sz n = mt_exf T' sz' n := by
  intro n
  induction n with
  | zero => intro _; rfl
  | succ n ih => intro e; unfold mt_exf; rw [ih (fun v hv => e v (by omega)), mt_cf_c n (fun v hv => e v (by omega)), (e n (by omega)).1, (e n (by omega)).2]
theorem mt_ex_c {T T' : Int → Int → Int} {sz sz' : Int → Int} {w : Nat} (hw : w < 16) (e : ∀ v : Nat, v ≤ w → T v = T' v ∧ sz v = sz' v) : mt_ex T sz w = mt_ex T' sz' w ∧ mt_cn mt_one T sz w = mt_cn mt_one T' sz' w := by
  unfold mt_ex mt_cn
  rw [mt_exf_lo (w + 1) 16 w (by omega) (by omega), mt_exf_lo (w + 1) 16 w (by omega) (by omega), mt_exf_c (w + 1) (fun v hv => e v (by omega)), mt_cf_lo (w + 1) 16 w (by omega) (by omega), mt_cf_lo (w + 1) 16 w (by omega) (by omega), mt_cf_c (w + 1) (fun v hv => e v (by omega))]
  exact ⟨rfl, rfl⟩
/-! the class: what it keeps between calls -/
theorem mt_tx115 : ml_tx 115 := ⟨by decide, by decide, by decide +kernel⟩
theorem mt_txw {w : Int} (w0 : 0 ≤ w) (w1 : w < 16) : ml_tx (120 + 6 * w) := by
  have k : ∀ n : Nat, n < 16 → ml_lay (120 + 6 * (n : Int)) = (2, 100) := by decide +kernel
  have := k w.toNat (by omega)
  rw [show ((w.toNat : Nat) : Int) = w by omega] at this
  exact ⟨by omega, by omega, this⟩
def ic_A (h told : Int) (σ : ml_St) : Prop := σ 1 11 = h ∧ σ 1 12 = told ∧ 2 ≤ h ∧ h ≤ 5 ∧ 0 ≤ told ∧ told ≤ 16
def ic_B (ts : Int) (tb : Int → Int) (σ : ml_St) : Prop := σ 2 1 = ts ∧ 0 ≤ ts ∧ ts ≤ 200 ∧ ∀ i, 0 ≤ i → i < ts → 0 ≤ σ 3 i ∧ σ 3 i ≤ 255 ∧ b_i2b (σ 3 i) = tb i
def ic_C (h cap : Int) (cl : Int → Int) (σ : ml_St) : Prop := σ 4 1 = cap ∧ (cap = 0 ∨ cap = 1) ∧ mt_eq h (σ 5) cl ∧ mt_M h cl ∧ (cap = 0 → mt_eq h cl (mt_str h))
def ic_D (pr : Int → Int) (σ : ml_St) : Prop := ∀ w, 0 ≤ w → w < 16 → σ (119 + 6 * w) 3 = pr w ∧ 1 ≤ pr w ∧ pr w ≤ 1000
def mt_pl (t : Int → Int) : Nat → Int
  | 0 => 1
  | k + 1 => if mt_pl t k = 0 then 0 else if t k = 120 ∨ t k = 117 ∨ (48 ≤ t k ∧ t k ≤ 57) then 1 else 0
/-- word w's TEXT stands in the store -/
def ic_T (h : Int) (T : Int → Int → Int) (sz : Int → Int) (w : Int) (σ : ml_St) : Prop := mt_good h w (T w) (sz w) ∧ σ (119 + 6 * w) 1 = sz w ∧ mt_teq (sz w) (σ (120 + 6 * w)) (T w) ∧ σ (119 + 6 * w) 2 = mt_pl (T w) (sz w).toNat
def ic_E (h told : Int) (T : Int → Int → Int) (sz : Int → Int) (σ : ml_St) : Prop := ∀ w, 0 ≤ w → w < told → ic_T h T sz w σ ∧ mt_wv h σ (121 + 6 * w) (mt_mk h T sz w)
/-- the rows written out: of a word that is marked so, its first signs -/
def ic_w1 (T : Int → Int → Int) (sz : Int → Int) (w : Int) (σ : ml_St) : Prop := σ (119 + 6 * w) 6 = min 2000 (mt_cn mt_one T sz w) ∧ ∀ j, 0 ≤ j → j < σ (119 + 6 * w) 6 → σ (124 + 6 * w) j = mt_ex T sz w j
def ic_R (told : Int) (T : Int → Int → Int) (sz : Int → Int) (σ : ml_St) : Prop := ∀ w, 0 ≤ w → w < 16 → (0 ≤ σ (119 + 6 * w) 6 ∧ σ (119 + 6 * w) 6 ≤ 2000) ∧ (w < told → σ (119 + 6 * w) 7 ≠ 0 → ic_w1 T sz w σ)
theorem mt_pl_c {t t' : Int → Int} : ∀ n : Nat, (∀ k : Nat, k < n → t k = t' k) → mt_pl t n = mt_pl t' n := by
  intro n
  induction n with
  | zero => intro _; rfl
  | succ n ih => intro e; unfold mt_pl; rw [ih (fun k hk => e k (by omega)), e n (by omega)]
theorem mt_pl_01 {t : Int → Int} : ∀ n : Nat, mt_pl t n = 0 ∨ mt_pl t n = 1 := by
  intro n
  cases n with
  | zero => exact Or.inr rfl
  | succ n => unfold mt_pl; (repeat' split) <;> omega
theorem s_setText {Q : ml_St → Prop} {th n : Int} {σ : ml_St} (t9 : 116 < th) (n0 : 0 ≤ n) (n1 : n ≤ 100) (k : ∀ σ', (∀ j, j ≠ th → j ≠ th + 1 → σ' j = σ j) → (∀ b, b ≠ 1 → b ≠ 2 → σ' th b = σ th b) → σ' th 1 = n → mt_teq n (σ' (th + 1)) (σ 115) → σ' th 2 = mt_pl (σ 115) n.toNat → Q σ') : f_X10_setText σ th 115 n Q := by
  unfold f_X10_setText f_X10_setText_u0
  refine ⟨by omega, by omega, n0, by omega, by omega, fun σ1 s1 σ2 s2 σ3 s3 => ⟨n.toNat + 1, ?_⟩⟩
  have L : ∀ (N : Nat) (i : Nat) (τ : ml_St), (i : Int) ≤ n → n - i < N → (∀ j, j ≠ th → τ j = σ3 j) → (∀ b, b ≠ 2 → τ th b = σ3 th b) → τ th 2 = mt_pl (σ 115) i → f_X10_setText_u23 Q (f_X10_setText_u84 Q th 115) th 115 N τ n i := by
    intro N
    induction N with
    | zero => intro i τ hi hN; omega
    | succ N ih =>
      intro i τ hi hN f1 f2 e2
      have tx : i < n.toNat → τ (th + 1) i = σ 115 i := fun c => by rw [f1 _ (by omega), s3, ml_up_k (by omega), s2, ml_up_k (by omega), s1, mt_cpy2, if_pos ⟨rfl, by omega, by omega⟩]; congr 1; omega
      unfold f_X10_setText_u23
      refine ⟨fun c => ?_, fun c => ?_⟩
      · have : i = n.toNat := by omega
        subst this
        unfold f_X10_setText_u84
        refine k τ (fun j h1 h2 => ?_) (fun b h1 h2 => ?_) ?_ (fun j j0 j1 => ?_) e2
        · rw [f1 j h1, s3, ml_up_k h1, s2, ml_up_k h1, s1, mt_cpy_k h2]
        · rw [f2 b h2, s3, ml_up_i h2, s2, ml_up_i h1, s1, mt_cpy_k (by omega)]
        · rw [f2 1 (by omega), s3, ml_up_i (by omega), s2, ml_up_same]
        · rw [f1 _ (by omega), s3, ml_up_k (by omega), s2, ml_up_k (by omega), s1, mt_cpy2, if_pos ⟨rfl, by omega, by omega⟩]; congr 1; omega
      have tx := tx (by omega)
      have nx : ∀ s, s = mt_pl (σ 115) (i + 1) → f_X10_setText_u75 Q (f_X10_setText_u23 Q (f_X10_setText_u84 Q th 115) th 115 N) th 115 τ n i s := by
        intro s es
        unfold f_X10_setText_u75
        intro σ4 s4
        refine ⟨mt_I (by omega) (by omega), fun y2 e2 => ?_⟩
        have e2 : y2 = ((i + 1 : Nat) : Int) := by omega
        subst e2
        exact ih (i + 1) σ4 (by omega) (by omega) (fun j hj => by rw [s4, ml_up_k hj, f1 j hj]) (fun b hb => by rw [s4, ml_up_i hb, f2 b hb]) (by rw [s4, ml_up_same, es])
      rw [e2, tx]
      have h1 : mt_pl (σ 115) i ≠ 0 → (σ 115 i = 120 ∨ σ 115 i = 117 ∨ (48 ≤ σ 115 i ∧ σ 115 i ≤ 57)) → f_X10_setText_u70 Q (f_X10_setText_u23 Q (f_X10_setText_u84 Q th 115) th 115 N) th 115 τ n i := by
        intro c d
        unfold f_X10_setText_u70
        refine nx 1 ?_
        unfold mt_pl; rw [if_neg c, if_pos d]
      refine fun _ => ⟨fun d => ?_, fun d => ⟨by omega, by omega, fun _ => ⟨fun d1 => h1 d (Or.inl d1), fun d1 => ⟨by omega, by omega, fun _ => ⟨fun d2 => h1 d (Or.inr (Or.inl d2)), fun d2 => ⟨by omega, by omega, fun _ => s_dig2 (fun d3 _ => ⟨fun c => absurd c (by omega), fun _ => h1 d (Or.inr (Or.inr d3))⟩) (fun d3 _ => ⟨fun _ => ?_, fun c => absurd rfl c⟩)⟩⟩⟩⟩⟩⟩
      · unfold f_X10_setText_u74
        refine nx 0 ?_
        unfold mt_pl; rw [if_pos d]
      · unfold f_X10_setText_u74
        refine nx 0 ?_
        unfold mt_pl; rw [if_neg d, if_neg (by omega)]
  exact L _ 0 σ3 (by omega) (by omega) (fun _ _ => rfl) (fun _ _ => rfl) (by rw [s3, ml_up_same]; rfl)
theorem mt_mkf_c {h : Int} {T T' : Int → Int → Int} {sz sz' : Int → Int} : ∀ (n : Nat), (∀ v : Nat, v < n → T v = T' v ∧ sz v = sz' v) → mt_mkf h T sz n = mt_mkf h T' sz' n := by
  intro n
  induction n with
  | zero => intro _; rfl
  | succ n ih => intro e; unfold mt_mkf; rw [ih (fun v hv => e v (by omega)), (e n (by omega)).1, (e n (by omega)).2]
theorem mt_mk_c {h : Int} {T T' : Int → Int → Int} {sz sz' : Int → Int} {w : Nat} (hw : w < 16) (e : ∀ v : Nat, v ≤ w → T v = T' v ∧ sz v = sz' v) : mt_mk h T sz w = mt_mk h T' sz' w := by
  unfold mt_mk
  rw [mt_mkf_lo (w + 1) 16 w (by omega) (by omega), mt_mkf_lo (w + 1) 16 w (by omega) (by omega), mt_mkf_c (w + 1) (fun v hv => e v (by omega))]
/-- weaving words anew from w on -/
theorem s_weaveFrom {Q : ml_St → Prop} {h told w : Int} {T : Int → Int → Int} {sz : Int → Int} {σ0 : ml_St} (a : ic_A h told σ0) (w0 : 0 ≤ w) (w1 : w < told) (tx : ∀ v, 0 ≤ v → v < told → ic_T h T sz v σ0) (lo : ∀ v, 0 ≤ v → v < w → mt_wv h σ0 (121 + 6 * v) (mt_mk h T sz v))
    (k : ∀ σ, (∀ j, j ≠ 9 → j ≠ 55 → (j < 13 ∨ 45 < j) → (∀ v, w ≤ v → v < told → j ≠ 119 + 6 * v ∧ j ≠ 121 + 6 * v ∧ j ≠ 122 + 6 * v ∧ j ≠ 123 + 6 * v) → σ j = σ0 j) → (∀ v b, 0 ≤ v → v < 16 → b ≠ 7 → σ (119 + 6 * v) b = σ0 (119 + 6 * v) b) → σ 55 0 = 0 → (∀ v, 0 ≤ v → v < told → mt_wv h σ (121 + 6 * v) (mt_mk h T sz v)) → (∀ v, w ≤ v → v < told → σ (119 + 6 * v) 7 = 0) → Q σ) : f_X11_weaveFrom σ0 w Q := by
  obtain ⟨a1, a2, h2, h5, t0, t16⟩ := a
  have L : ∀ (N : Nat) (v : Int) (σ : ml_St), w ≤ v → v ≤ told → told - v < N → (∀ j, j ≠ 9 → (j < 13 ∨ 45 < j) → (∀ u, w ≤ u → u < v → j ≠ 119 + 6 * u ∧ j ≠ 121 + 6 * u ∧ j ≠ 122 + 6 * u ∧ j ≠ 123 + 6 * u) → σ j = σ0 j) → (∀ u b, 0 ≤ u → u < 16 → b ≠ 7 → σ (119 + 6 * u) b = σ0 (119 + 6 * u) b) → (∀ u, 0 ≤ u → u < v → mt_wv h σ (121 + 6 * u) (mt_mk h T sz u)) → (∀ u, w ≤ u → u < v → σ (119 + 6 * u) 7 = 0) → f_X11_weaveFrom_u2 Q (f_X11_weaveFrom_u55 Q) N σ v := by
    intro N
    induction N with
    | zero => intro v σ _ _ hN; omega
    | succ N ih =>
      intro v σ v0 v1 hN f fb wv fz
      have e1 : σ 1 = σ0 1 := f 1 (by omega) (by omega) (fun u _ _ => ⟨by omega, by omega, by omega, by omega⟩)
      unfold f_X11_weaveFrom_u2
      rw [e1, a2, a1]
      refine fun _ => ⟨fun c => ?_, fun c => ⟨by omega, by omega, fun _ _ => ?_⟩⟩
      · have : v = told := by omega
        subst this
        unfold f_X11_weaveFrom_u55 f_X7_forget f_X7_forget_u0
        intro σ1 s1
        refine k σ1 (fun j h1 h3 h4 h6 => by rw [s1, ml_up_k h3, f j h1 h4 h6]) (fun u b u0 u1 hb => by rw [s1, ml_up_k (by omega), fb u b u0 u1 hb]) (by rw [s1, ml_up_same]) (fun u u0 u1 => ?_) (fun u u0 u1 => by rw [s1, ml_up_k (by omega)]; exact fz u u0 u1)
        refine mt_wv_eq ?_ ?_ ?_ (wv u u0 u1)
        · rw [s1, ml_up_k (by omega)]
        · rw [s1, ml_up_k (by omega)]
        · rw [s1, ml_up_k (by omega)]
      · obtain ⟨g, s1, s2, s3⟩ := tx v (by omega) (by omega)
        have es : σ (119 + 6 * v) 1 = sz v := by rw [fb v 1 (by omega) (by omega) (by omega), s1]
        have et : mt_teq (sz v) (T v) (σ (120 + 6 * v)) := fun j j0 j1 => by rw [f (120 + 6 * v) (by omega) (by omega) (fun u _ _ => ⟨by omega, by omega, by omega, by omega⟩)]; exact (s2 j j0 j1).symm
        have g' := mt_good_c et g
        rw [es, show 119 + 6 * v + 1 = 120 + 6 * v by omega, show 119 + 6 * v + 2 = 121 + 6 * v by omega]
        have hM : ∀ u, 0 ≤ u → u < v → mt_M h (mt_mk h T sz u) := fun u u0 u1 => by
          have := (mt_mk_ok (T := T) (sz := sz) h5 u.toNat (by omega) (fun x hx => (tx x (by omega) (by omega)).1)).1
          rw [show ((u.toNat : Nat) : Int) = u by omega] at this
          exact this
        refine s_weave (w := v) (mk := mt_mk h T sz) (mt_txw (by omega) (by omega)) (by omega) (by omega) (by have := g.1; omega) g.2.1 h2 h5 (by omega) (by omega) g'.2.2.2 (fun u u0 u1 => ⟨wv u u0 u1, hM u u0 u1⟩) (fun σ6 f6 w6 _ => ?_)
        intro σ7 s7
        refine ⟨mt_I (by omega) (by omega), fun y8 e8 => ?_⟩
        subst e8
        refine ih (v + 1) σ7 (by omega) (by omega) (by omega) (fun j h1 h3 h4 => ?_) (fun u b u0 u1 hb => ?_) (fun u u0 u1 => ?_) (fun u u0 u1 => ?_)
        · have := h4 v (by omega) (by omega)
          rw [s7, ml_up_k (by omega), f6 j h1 h3 (by omega) (by omega) (by omega)]
          exact f j h1 h3 (fun u hu hv => h4 u hu (by omega))
        · rw [s7]
          by_cases q : u = v
          · rw [q, ml_up_i hb, f6 _ (by omega) (by omega) (by omega) (by omega) (by omega), ← q, fb u b u0 u1 hb]
          · rw [ml_up_k (by omega), f6 _ (by omega) (by omega) (by omega) (by omega) (by omega), fb u b u0 u1 hb]
        · have u7 : ∀ j, j ≠ 119 + 6 * v → σ7 j = σ6 j := fun j hj => by rw [s7, ml_up_k hj]
          refine mt_wv_eq (u7 _ (by omega)) (u7 _ (by omega)) (u7 _ (by omega)) ?_
          by_cases q : u = v
          · subst q
            have em : mt_mk h T sz u = mt_wo (σ (120 + 6 * u)) (sz u) h (mt_mk h T sz) := by
              have := mt_mk_e (h := h) (T := T) (sz := sz) (w := u.toNat) (by omega) (by rw [show ((u.toNat : Nat) : Int) = u by omega]; exact g)
              rw [show ((u.toNat : Nat) : Int) = u by omega] at this
              rw [this]
              exact mt_we_t (w := u) (by have := g.1; omega) et (fun _ _ _ => rfl) _ _ _ 1 _ (Int.le_refl 0) (by have := g.1; omega) g.2.2.2
            rw [em]; exact w6
          · exact mt_wv_eq (f6 _ (by omega) (by omega) (by omega) (by omega) (by omega)) (f6 _ (by omega) (by omega) (by omega) (by omega) (by omega)) (f6 _ (by omega) (by omega) (by omega) (by omega) (by omega)) (wv u u0 (by omega))
        · by_cases q : u = v
          · rw [q, s7, ml_up_same]
          · rw [s7, ml_up_k (by omega), f6 _ (by omega) (by omega) (by omega) (by omega) (by omega)]; exact fz u u0 (by omega)
  unfold f_X11_weaveFrom f_X11_weaveFrom_u0
  exact ⟨(told - w).toNat + 1, L _ w σ0 (by omega) (by omega) (by omega) (fun _ _ _ _ => rfl) (fun _ _ _ _ _ => rfl) lo (fun u u0 u1 => absurd u1 (by omega))⟩
def ic_G (h told : Int) (σ : ml_St) : Prop := 1 ≤ σ 55 1 ∧ σ 55 1 ≤ 6 ∧ (∀ i, 0 ≤ i → i < σ 55 1 → 0 ≤ σ 56 i ∧ σ 56 i < told) ∧ 1 ≤ σ 55 2 ∧ σ 55 2 ≤ 946 ∧ (∀ x, 0 ≤ x → x < 945 → -1 ≤ σ 57 x ∧ σ 57 x < σ 55 2 ∧ σ 57 x ≠ 0) ∧ (∀ p i, 0 ≤ p → p < σ 55 2 → 0 ≤ i → i < σ 55 1 → 1 ≤ σ 58 (6 * p + i) ∧ σ 58 (6 * p + i) < σ 55 2 ∧ 0 ≤ σ 59 (6 * p + i) ∧ σ 59 (6 * p + i) ≤ 3) ∧ (∀ p, 0 ≤ p → p < σ 55 2 → ∃ v, mt_M h v ∧ ∀ e, 0 ≤ e → e < 2 * h → σ 61 (10 * p + e) = v e) ∧ 0 ≤ σ 55 11 ∧ σ 55 11 ≤ 1000
/-- pairs alone, as a weave -/
def mq_w (f : Int → Int) (i : Int) : Int := if i < 10 then f i else 0
/-- places of sentences in the order in which they are found; the letters of the places below frm are gone through, and of frm those below i -/
def mt_bl (p a frm i : Int) : Prop := p < frm ∨ (p = frm ∧ a < i)
def mt_bf (h L : Int) (lt S : Int → Int → Int) (nx : Int → Int → Int) (P frm i : Int) : Prop := 1 ≤ P ∧ mt_eq h (S 0) (mt_str h) ∧ (∀ p, 0 ≤ p → p < P → mt_M h (S p)) ∧ (∀ p q, 1 ≤ p → p < q → q < P → ¬ mt_eq h (S p) (S q)) ∧ (∀ p a, 0 ≤ p → 0 ≤ a → a < L → mt_bl p a frm i → 1 ≤ nx p a ∧ nx p a < P ∧ mt_eq h (S (nx p a)) (mt_both h (mq_w (S p)) (lt a)) ∧ ∀ q, 1 ≤ q → q < nx p a → ∃ p' a', 0 ≤ p' ∧ 0 ≤ a' ∧ a' < L ∧ mt_bl p' a' p a ∧ nx p' a' = q) ∧ ∀ q, 1 ≤ q → q < P → ∃ p a, 0 ≤ p ∧ p < q ∧ 0 ≤ a ∧ a < L ∧ mt_bl p a frm i ∧ nx p a = q
/-- the letters of a set, by their numbers -/
def mt_bc (set : Int) : Nat → Int
  | 0 => 0
  | n + 1 => mt_bc set n + mb_t set n
def ic_L (set told L : Int) (l : Int → Int) : Prop := L = mt_bc set told.toNat ∧ ∀ v : Nat, (v : Int) < told → mb_t set v = 1 → l (mt_bc set v) = v
/-- how many sentences lead where, with how many loops -/
def ms_Wa (nx mo V : Int → Int → Int) (q l p : Int) : Nat → Int
  | 0 => 0
  | a + 1 => ms_Wa nx mo V q l p a + (if nx p a = q ∧ mo p a ≤ l then V p (l - mo p a) else 0)
def ms_Wp (L : Int) (nx mo V : Int → Int → Int) (q l : Int) : Nat → Int
  | 0 => 0
  | p + 1 => ms_Wp L nx mo V q l p + ms_Wa nx mo V q l p L.toNat
def ms_W (L P : Int) (nx mo : Int → Int → Int) : Nat → Int → Int → Int
  | 0 => fun q l => if q = 0 ∧ l = 0 then 1 else 0
  | n + 1 => fun q l => ms_Wp L nx mo (ms_W L P nx mo n) q l P.toNat % 998244353
def ic_Y (h : Int) (mk : Int → Int → Int) (frm i : Int) (S : Int → Int → Int) (σ : ml_St) : Prop := mt_bf h (σ 55 1) (fun a => mk (σ 56 a)) S (fun p a => σ 58 (6 * p + a)) (σ 55 2) frm i ∧ (∀ p a, 0 ≤ p → 0 ≤ a → a < σ 55 1 → mt_bl p a frm i → σ 59 (6 * p + a) = min 3 (mt_both h (mq_w (S p)) (mk (σ 56 a)) 20)) ∧ (∀ p e, 0 ≤ p → p < σ 55 2 → 0 ≤ e → e < 2 * h → σ 61 (10 * p + e) = S p e) ∧ (∀ q, 1 ≤ q → q < σ 55 2 → σ 57 (mt_num h (S q)) = q) ∧ ∀ x, 0 ≤ x → x < 945 → σ 57 x ≠ -1 → (mt_num h (S (σ 57 x)) : Int) = x
def ic_W (σ : ml_St) : Prop := ∀ p l, 0 ≤ p → p < σ 55 2 → 0 ≤ l → l < 3 → σ 62 (3 * p + l) = ms_W (σ 55 1) (σ 55 2) (fun p a => σ 58 (6 * p + a)) (fun p a => σ 59 (6 * p + a)) (σ 55 11).toNat p l
def ic_X (h told : Int) (mk : Int → Int → Int) (σ : ml_St) : Prop := ic_L (σ 55 0) told (σ 55 1) (σ 56) ∧ (∃ S, ic_Y h mk (σ 55 2) 0 S σ) ∧ ic_W σ
def ic_S (h told : Int) (mk : Int → Int → Int) (σ : ml_St) : Prop := σ 55 0 = 0 ∨ (1 ≤ told ∧ ic_G h told σ ∧ ic_X h told mk σ)
def IC (h told ts cap : Int) (tb cl pr sz : Int → Int) (T : Int → Int → Int) (σ : ml_St) : Prop := ic_A h told σ ∧ ic_B ts tb σ ∧ ic_C h cap cl σ ∧ ic_D pr σ ∧ ic_E h told T sz σ ∧ ic_R told T sz σ ∧ ic_S h told (mt_mk h T sz) σ
theorem ic_A_k {h told : Int} {σ σ' : ml_St} (e : σ' 1 = σ 1) (i : ic_A h told σ) : ic_A h told σ' := by unfold ic_A; rw [e]; exact i
theorem ic_B_k {ts : Int} {tb : Int → Int} {σ σ' : ml_St} (e : σ' 2 = σ 2) (e3 : σ' 3 = σ 3) (i : ic_B ts tb σ) : ic_B ts tb σ' := by unfold ic_B; rw [e, e3]; exact i
theorem ic_C_k {h cap : Int} {cl : Int → Int} {σ σ' : ml_St} (e : σ' 4 = σ 4) (e5 : σ' 5 = σ 5) (i : ic_C h cap cl σ) : ic_C h cap cl σ' := by unfold ic_C; rw [e, e5]; exact i
theorem ic_D_k {pr : Int → Int} {σ σ' : ml_St} (e : ∀ w, 0 ≤ w → w < 16 → σ' (119 + 6 * w) 3 = σ (119 + 6 * w) 3) (i : ic_D pr σ) : ic_D pr σ' := fun w w0 w1 => by rw [e w w0 w1]; exact i w w0 w1
theorem ic_R_k {told : Int} {T : Int → Int → Int} {sz : Int → Int} {σ σ' : ml_St} (e : ∀ w, 0 ≤ w → w < 16 → σ' (119 + 6 * w) 6 = σ (119 + 6 * w) 6 ∧ σ' (119 + 6 * w) 7 = σ (119 + 6 * w) 7 ∧ σ' (124 + 6 * w) = σ (124 + 6 * w)) (i : ic_R told T sz σ) : ic_R told T sz σ' := fun w w0 w1 => by
  obtain ⟨e1, e2, e3⟩ := e w w0 w1
  unfold ic_w1
  rw [e1, e2, e3]; exact i w w0 w1
theorem ic_T_k {h w : Int} {T : Int → Int → Int} {sz : Int → Int} {σ σ' : ml_St} (e1 : σ' (119 + 6 * w) 1 = σ (119 + 6 * w) 1) (e2 : σ' (119 + 6 * w) 2 = σ (119 + 6 * w) 2) (et : σ' (120 + 6 * w) = σ (120 + 6 * w)) (i : ic_T h T sz w σ) : ic_T h T sz w σ' := by unfold ic_T; rw [e1, e2, et]; exact i
theorem ic_S_k {h told : Int} {mk : Int → Int → Int} {σ σ' : ml_St} (e : ∀ j, 55 ≤ j → j ≤ 63 → σ' j = σ j) (i : ic_S h told mk σ) : ic_S h told mk σ' := by
  unfold ic_S ic_G ic_X ic_Y ic_W
  rw [e 55 (by omega) (by omega), e 56 (by omega) (by omega), e 57 (by omega) (by omega), e 58 (by omega) (by omega), e 59 (by omega) (by omega), e 61 (by omega) (by omega), e 62 (by omega) (by omega)]
  exact i
/-- only scratch has changed -/
def mt_kp (σ σ' : ml_St) : Prop := ∀ j, (j ≤ 5 ∨ (55 ≤ j ∧ j ≤ 63) ∨ 118 < j) → σ' j = σ j
theorem mt_kp_r {σ : ml_St} : mt_kp σ σ := fun _ _ => rfl
theorem mt_kp_t {σ σ1 σ2 : ml_St} (a : mt_kp σ σ1) (b : mt_kp σ1 σ2) : mt_kp σ σ2 := fun j hj => by rw [b j hj, a j hj]
theorem mt_kp_fr {k : Int} {σ σ' : ml_St} (h1 : 5 < k) (h2 : k + 2 < 55 ∨ (63 < k ∧ k + 2 < 119)) (f : mt_fr k σ σ') : mt_kp σ σ' := fun j hj => f j (by omega) (by omega) (by omega)
theorem IC_kp {h told ts cap : Int} {tb cl pr sz : Int → Int} {T : Int → Int → Int} {σ σ' : ml_St} (f : mt_kp σ σ') (i : IC h told ts cap tb cl pr sz T σ) : IC h told ts cap tb cl pr sz T σ' := by
  obtain ⟨a, b, c, d, e, r, s⟩ := i
  have t16 : told ≤ 16 := a.2.2.2.2.2
  refine ⟨ic_A_k (f 1 (by omega)) a, ic_B_k (f 2 (by omega)) (f 3 (by omega)) b, ic_C_k (f 4 (by omega)) (f 5 (by omega)) c, ic_D_k (fun w w0 w1 => by rw [f _ (by omega)]) d, fun w w0 w1 => ⟨ic_T_k (by rw [f _ (by omega)]) (by rw [f _ (by omega)]) (f _ (by omega)) (e w w0 w1).1, mt_wv_eq (f _ (by omega)) (f _ (by omega)) (f _ (by omega)) (e w w0 w1).2⟩, ic_R_k (fun w w0 w1 => ⟨by rw [f _ (by omega)], by rw [f _ (by omega)], f _ (by omega)⟩) r, ic_S_k (fun j h1 h2 => f j (by omega)) s⟩
theorem mt_kp_m {σ σ' : ml_St} (f : mt_kp σ σ') : ∀ j, 215 ≤ j → σ' j = σ j := fun j hj => f j (by omega)
/-- told, made, an end -/
theorem s_isTold {Q : Int → ml_St → Prop} {w told : Int} {σ : ml_St} (e : σ 1 12 = told) (k1 : 0 ≤ w → w < told → Q 1 σ) (k0 : ¬ (0 ≤ w ∧ w < told) → Q 0 σ) : f_X11_isTold σ w Q := by
  unfold f_X11_isTold f_X11_isTold_u0
  refine ⟨fun c => ?_, fun c => ?_⟩
  · unfold f_X11_isTold_u16 f_X11_isTold_u17; exact k0 (by omega)
  · rw [e]
    refine fun _ => ⟨fun d => ?_, fun d => ?_⟩
    · unfold f_X11_isTold_u16 f_X11_isTold_u17; exact k0 (by omega)
    · unfold f_X11_isTold_u17; exact k1 (by omega) (by omega)
theorem s_isTooLong9 {Q : Int → ml_St → Prop} {th : Int} {σ : ml_St} (k1 : mt_mst < σ th 5 → Q 1 σ) (k0 : σ th 5 ≤ mt_mst → Q 0 σ) : f_X9_isTooLong σ th Q := by
  unfold f_X9_isTooLong f_X9_isTooLong_u0
  refine fun _ => ⟨fun c => ?_, fun c => ?_⟩
  · unfold f_X9_isTooLong_u16; exact k0 c
  · unfold f_X9_isTooLong_u16; exact k1 (by unfold mt_mst; omega)
theorem s_isMade {Q : Int → ml_St → Prop} {w told : Int} {σ : ml_St} (t16 : told ≤ 16) (e : σ 1 12 = told) (k1 : 0 ≤ w → w < told → σ (121 + 6 * w) 5 ≤ mt_mst → Q 1 σ) (k0 : ¬ (0 ≤ w ∧ w < told ∧ σ (121 + 6 * w) 5 ≤ mt_mst) → Q 0 σ) : f_X11_isMade σ w Q := by
  unfold f_X11_isMade f_X11_isMade_u0
  refine s_isTold e (fun h0 h1 _ => ⟨fun c => absurd c (by omega), fun _ => ⟨h0, by omega, ?_⟩⟩) (fun hn _ => ⟨fun _ => ?_, fun c => absurd rfl c⟩)
  · rw [show 119 + 6 * w + 2 = 121 + 6 * w by omega]
    refine s_isTooLong9 (fun c _ => ⟨fun _ => ?_, fun d => absurd d (by omega)⟩) (fun c _ => ⟨fun d => absurd rfl d, fun _ => ?_⟩)
    · unfold f_X11_isMade_u27 f_X11_isMade_u28; exact k0 (by omega)
    · unfold f_X11_isMade_u28; exact k1 h0 h1 c
  · unfold f_X11_isMade_u27 f_X11_isMade_u28; exact k0 (fun q => hn ⟨q.1, q.2.1⟩)
theorem s_isEnd {Q : Int → ml_St → Prop} {e h : Int} {σ : ml_St} (h2 : 2 ≤ h) (h5 : h ≤ 5) (eh : σ 1 11 = h) (k1 : 0 ≤ e → e < 2 * h → Q 1 σ) (k0 : ¬ (0 ≤ e ∧ e < 2 * h) → Q 0 σ) : f_X11_isEnd σ e Q := by
  unfold f_X11_isEnd f_X11_isEnd_u0
  refine ⟨fun c => ?_, fun c => ?_⟩
  · unfold f_X11_isEnd_u18 f_X11_isEnd_u19; exact k0 (by omega)
  · rw [eh]
    refine fun _ => ⟨mt_I (by omega) (by omega), fun d => ?_, fun d => ?_⟩
    · unfold f_X11_isEnd_u18 f_X11_isEnd_u19; exact k0 (by omega)
    · unfold f_X11_isEnd_u19; exact k1 (by omega) (by omega)
/-- telling a word -/
def mt_sT (T : Int → Int → Int) (w : Int) (t : Int → Int) : Int → Int → Int := fun k => if k = w then t else T k
def mt_fl (h w n : Int) (t : Int → Int) : Int := mt_gr t n h w (n.toNat + 1) 0 0 1
theorem s_tell {Q : Int → ml_St → Prop} {h told ts cap w n : Int} {tb cl pr sz : Int → Int} {T : Int → Int → Int} {σ0 : ml_St} (i : IC h told ts cap tb cl pr sz T σ0) (w0 : 0 ≤ w) (w1 : w ≤ told) (w16 : w < 16)
    (k1 : ¬ (1 ≤ n ∧ n ≤ 100 ∧ n ≤ ts) → Q (-1) σ0)
    (k2 : 1 ≤ n → n ≤ 100 → n ≤ ts → mt_fl h w n tb ≠ 0 → ∀ σ, IC h told 0 cap tb cl pr sz T σ → (∀ j, 215 ≤ j → σ j = σ0 j) → Q (mt_fl h w n tb) σ)
    (k3 : 1 ≤ n → n ≤ 100 → n ≤ ts → mt_fl h w n tb = 0 → mt_mst < mt_wo tb n h (mt_mk h T sz) 23 → ∀ σ, IC h told 0 cap tb cl pr sz T σ → (∀ j, 215 ≤ j → σ j = σ0 j) → Q (-5000 - n) σ)
    (k4 : 1 ≤ n → n ≤ 100 → n ≤ ts → mt_fl h w n tb = 0 → mt_wo tb n h (mt_mk h T sz) 23 ≤ mt_mst → ∀ σ, IC h (max told (w + 1)) 0 cap tb cl pr (mt_st sz w n) (mt_sT T w tb) σ → (∀ j, 215 ≤ j → σ j = σ0 j) → Q w σ) : f_X11_tell σ0 w n Q := by
  obtain ⟨a, b, c, d, e, r, s⟩ := i
  obtain ⟨a1, a2, h2, h5, t0, t16⟩ := a
  obtain ⟨b1, b2, b3, b4⟩ := b
  unfold f_X11_tell f_X11_tell_u0
  rw [b1]
  refine ⟨fun q => ?_, fun q => ⟨fun q2 => ?_, fun q2 _ => ⟨fun q3 => ⟨n.toNat + 1, ?_⟩, fun q3 => ?_⟩⟩⟩
  · unfold f_X11_tell_u22; exact k1 (by omega)
  · unfold f_X11_tell_u22; exact k1 (by omega)
  · have n1 : 1 ≤ n := by omega
    have n100 : n ≤ 100 := by omega
    have k2 := k2 n1 n100 q3
    have k3 := k3 n1 n100 q3
    have k4 := k4 n1 n100 q3
    -- the draft
    have L : ∀ (N : Nat) (x : Int) (σ : ml_St), 0 ≤ x → x ≤ n → n - x < N → (∀ j, j ≠ 115 → σ j = σ0 j) → (∀ j, 0 ≤ j → j < x → σ 115 j = tb j) → (∀ σ, (∀ j, j ≠ 115 → σ j = σ0 j) → mt_teq n (σ 115) tb → f_X11_tell_u53 Q σ w n) → f_X11_tell_u26 Q (f_X11_tell_u53 Q) N σ w n x := by
      intro N
      induction N with
      | zero => intro x σ _ _ hN; omega
      | succ N ih =>
        intro x σ x0 x1 hN f ft kk
        unfold f_X11_tell_u26
        refine ⟨fun c1 => kk σ f (fun j j0 j1 => ft j j0 (by omega)), fun c1 => ⟨x0, by omega, fun _ => ⟨x0, by omega, fun σ3 s3 => ⟨mt_I (by omega) (by omega), fun y4 e4 => ?_⟩⟩⟩⟩
        subst e4
        refine ih (x + 1) σ3 (by omega) (by omega) (by omega) (fun j hj => by rw [s3, ml_up_k hj, f j hj]) (fun j j0 j1 => ?_) kk
        rw [s3]
        by_cases z : j = x
        · rw [z, ml_up_same, f 3 (by omega)]; exact (b4 x x0 (by omega)).2.2
        · rw [ml_up_i z]; exact ft j j0 (by omega)
    refine L _ 0 σ0 (by omega) (by omega) (by omega) (fun _ _ => rfl) (fun j j0 j1 => absurd j1 (by omega)) (fun σ1 f1 et => ?_)
    unfold f_X11_tell_u53
    intro σ2 g2
    have f2 : ∀ j, j ≠ 115 → j ≠ 2 → σ2 j = σ0 j := fun j h1 h3 => by rw [g2, ml_up_k h3, f1 j h1]
    have e115 : σ2 115 = σ1 115 := by rw [g2, ml_up_k (by omega)]
    have e2 : σ2 2 1 = 0 := by rw [g2, ml_up_same]
    rw [f2 1 (by omega) (by omega), a1]
    have tI : ∀ j, 0 ≤ j → j < n → ml_I8 (tb j) := fun j j0 j1 => by
      rw [← (b4 j j0 (by omega)).2.2]
      unfold b_i2b
      generalize (Int32.ofInt (σ0 3 j)).toInt8 = z
      exact ⟨by have := Int8.le_toInt z; omega, by have := Int8.toInt_lt z; omega⟩
    have eg : mt_gr (σ2 115) n h w (n.toNat + 1) 0 0 1 = mt_fl h w n tb := by rw [e115]; exact mt_gr_t et _ _ _ _ (Int.le_refl 0)
    -- IC with an empty tape holds in any store that differs in scratch alone
    have emp : ∀ σ, (∀ j, (j = 1 ∨ j = 3 ∨ j = 4 ∨ j = 5 ∨ (55 ≤ j ∧ j ≤ 63) ∨ (118 < j)) → σ j = σ0 j) → σ 2 1 = 0 → IC h told 0 cap tb cl pr sz T σ := by
      intro σ f z
      refine ⟨ic_A_k (f 1 (by omega)) ⟨a1, a2, h2, h5, t0, t16⟩, ⟨z, by omega, by omega, fun i i0 i1 => absurd i1 (by omega)⟩, ic_C_k (f 4 (by omega)) (f 5 (by omega)) c, ic_D_k (fun w w0 w1 => by rw [f _ (by omega)]) d, fun w w0 w1 => ⟨ic_T_k (by rw [f _ (by omega)]) (by rw [f _ (by omega)]) (f _ (by omega)) (e w w0 w1).1, mt_wv_eq (f _ (by omega)) (f _ (by omega)) (f _ (by omega)) (e w w0 w1).2⟩, ic_R_k (fun w w0 w1 => ⟨by rw [f _ (by omega)], by rw [f _ (by omega)], f _ (by omega)⟩) r, ic_S_k (fun j h1 h2 => f j (by omega)) s⟩
    refine fun _ => s_faultIn mt_tx115 (by omega) (by omega) n100 h2 h5 w0 (by omega) (fun j j0 j1 => by rw [e115, et j j0 j1]; exact tI j j0 j1) (fun σ3 f3 => ?_)
    rw [eg]
    have f3' : ∀ j, j ≠ 115 → j ≠ 2 → j ≠ 6 → σ3 j = σ0 j := fun j h1 h3 h4 => by rw [f3 j h4, f2 j h1 h3]
    refine fun _ => ⟨fun z => ?_, fun z => ?_⟩
    · rw [f3' 1 (by omega) (by omega) (by omega), a1]
      have e115' : σ3 115 = σ1 115 := by rw [f3 115 (by omega), e115]
      have g3 : mt_gr (σ3 115) n h w (n.toNat + 1) 0 0 1 = 0 := by rw [e115']; rw [mt_gr_t et _ _ _ _ (Int.le_refl 0)]; exact z
      have hM : ∀ u, 0 ≤ u → u < told → mt_M h (mt_mk h T sz u) := fun u u0 u1 => by
        have := (mt_mk_ok (T := T) (sz := sz) h5 u.toNat (by omega) (fun x hx => (e x (by omega) (by omega)).1.1)).1
        rw [show ((u.toNat : Nat) : Int) = u by omega] at this
        exact this
      refine fun _ => s_weave (w := w) (mk := mt_mk h T sz) mt_tx115 (by omega) (by omega) (by omega) n100 h2 h5 w0 (by omega) g3 (fun v v0 v1 => ⟨mt_wv_eq (f3' _ (by omega) (by omega) (by omega)) (f3' _ (by omega) (by omega) (by omega)) (f3' _ (by omega) (by omega) (by omega)) (e v v0 (by omega)).2, hM v v0 (by omega)⟩) (fun σ6 f6 w6 _ => ?_)
      have ew : mt_wo (σ3 115) n h (mt_mk h T sz) = mt_wo tb n h (mt_mk h T sz) := by
        rw [e115']
        exact mt_we_t (w := w) (by omega) et (fun _ _ _ => rfl) _ _ _ 1 _ (Int.le_refl 0) (by omega) (by rw [← e115']; exact g3)
      rw [ew] at w6
      have f6' : ∀ j, (j = 1 ∨ j = 3 ∨ j = 4 ∨ j = 5 ∨ (55 ≤ j ∧ j ≤ 63) ∨ (118 < j)) → σ6 j = σ0 j := fun j hj => by rw [f6 j (by omega) (by omega) (by omega) (by omega) (by omega), f3' j (by omega) (by omega) (by omega)]
      have z6 : σ6 2 1 = 0 := by rw [f6 2 (by omega) (by omega) (by omega) (by omega) (by omega), f3 2 (by omega), e2]
      refine s_isTooLong9 (fun c1 _ => ⟨fun c2 => absurd c2 (by omega), fun _ => ?_⟩) (fun c1 _ => ⟨fun _ => ⟨w0, w16, ?_⟩, fun c2 => absurd rfl c2⟩)
      · rw [w6.2.2.2.2.1] at c1
        refine s_faultAt ⟨by omega, by omega⟩ ⟨by omega, by omega⟩ (fun _ _ => ?_)
        rw [show -1000 * 5 - n = -5000 - n by omega]
        exact k3 z c1 σ6 (emp σ6 f6' z6) (fun j hj => f6' j (by omega))
      · rw [w6.2.2.2.2.1] at c1
        have e6 : σ6 115 = σ1 115 := by rw [f6 115 (by omega) (by omega) (by omega) (by omega) (by omega), e115']
        refine s_setText (by omega) (by omega) n100 (fun σ10 f10 fb10 s10 t10 p10 => ?_)
        have e10 : σ10 1 = σ0 1 := by rw [f10 1 (by omega) (by omega), f6' 1 (by omega)]
        rw [e10, a2]
        refine fun _ => ⟨mt_I (by omega) (by omega), fun σ13 g13 => ?_⟩
        have k13 : ∀ j, j ≠ 1 → σ13 j = σ10 j := fun j hj => by rw [g13, ml_up_k hj]
        have a13 : ic_A h (max told (w + 1)) σ13 := ⟨by rw [g13, ml_up_i (by omega), e10, a1], by rw [g13, ml_up_same], h2, h5, by omega, by omega⟩
        have et10 : mt_teq n (σ10 (119 + 6 * w + 1)) tb := fun j j0 j1 => by rw [t10 j j0 j1, e6, et j j0 j1]
        have gw : mt_good h w tb n := ⟨n1, n100, tI, z⟩
        have epl : mt_pl (σ6 115) n.toNat = mt_pl tb n.toNat := mt_pl_c _ (fun x hx => by rw [e6]; exact et x (by omega) (by omega))
        have old : ∀ v, 0 ≤ v → v < 16 → v ≠ w → ∀ q, q = 119 + 6 * v ∨ q = 120 + 6 * v ∨ q = 121 + 6 * v ∨ q = 122 + 6 * v ∨ q = 123 + 6 * v → σ13 q = σ0 q := fun v v0 v1 vw q hq => by rw [k13 q (by omega), f10 q (by omega) (by omega), f6' q (by omega)]
        have ne : ∀ v, v ≠ w → mt_sT T w tb v = T v ∧ mt_st sz w n v = sz v := fun v hv => ⟨if_neg hv, if_neg hv⟩
        have sw : mt_sT T w tb w = tb ∧ mt_st sz w n w = n := ⟨if_pos rfl, if_pos rfl⟩
        have tx13 : ∀ v, 0 ≤ v → v < max told (w + 1) → ic_T h (mt_sT T w tb) (mt_st sz w n) v σ13 := by
          intro v v0 v1
          by_cases q : v = w
          · subst q
            unfold ic_T
            rw [sw.1, sw.2, k13 _ (by omega), k13 _ (by omega), s10, p10, epl]
            rw [show 120 + 6 * v = 119 + 6 * v + 1 by omega]
            exact ⟨gw, rfl, et10, rfl⟩
          · have := (e v v0 (by omega)).1
            unfold ic_T at this ⊢
            rw [(ne v q).1, (ne v q).2, old v v0 (by omega) q _ (Or.inl rfl), old v v0 (by omega) q _ (Or.inr (Or.inl rfl))]
            exact this
        have mk_lo : ∀ v, 0 ≤ v → v < w → mt_mk h (mt_sT T w tb) (mt_st sz w n) v = mt_mk h T sz v := by
          intro v v0 v1
          have := mt_mk_c (h := h) (T := mt_sT T w tb) (T' := T) (sz := mt_st sz w n) (sz' := sz) (w := v.toNat) (by omega) (fun u hu => ne u (by omega))
          rw [show ((v.toNat : Nat) : Int) = v by omega] at this
          exact this
        refine s_weaveFrom a13 w0 (by omega) tx13 (fun v v0 v1 => ?_) (fun σ14 f14 fb14 z14 wv14 fz14 => ?_)
        · rw [mk_lo v v0 v1]
          exact mt_wv_eq (old v v0 (by omega) (by omega) _ (by omega)) (old v v0 (by omega) (by omega) _ (by omega)) (old v v0 (by omega) (by omega) _ (by omega)) (e v v0 (by omega)).2
        · have f14' : ∀ j, j ≠ 9 → j ≠ 55 → (j < 13 ∨ 45 < j) → j < 119 → σ14 j = σ13 j := fun j h1 h3 h4 h6 => f14 j h1 h3 h4 (fun v _ _ => ⟨by omega, by omega, by omega, by omega⟩)
          have fld : ∀ v b, 0 ≤ v → v < 16 → b ≠ 1 → b ≠ 2 → b ≠ 7 → σ14 (119 + 6 * v) b = σ0 (119 + 6 * v) b := by
            intro v b v0 v1 c1 c2 c7
            rw [fb14 v b v0 v1 c7, k13 _ (by omega)]
            by_cases q : v = w
            · subst q; rw [fb10 b c1 c2, f6' _ (by omega)]
            · rw [f10 _ (by omega) (by omega), f6' _ (by omega)]
          refine k4 z c1 σ14 ⟨ic_A_k (f14' 1 (by omega) (by omega) (by omega) (by omega)) a13, ⟨?_, by omega, by omega, fun i i0 i1 => absurd i1 (by omega)⟩, ?_, ic_D_k (fun v v0 v1 => fld v 3 v0 v1 (by omega) (by omega) (by omega)) d, fun v v0 v1 => ⟨?_, wv14 v v0 v1⟩, fun v v0 v1 => ⟨?_, fun vt vz => ?_⟩, Or.inl z14⟩ (fun j hj => ?_)
          · rw [f14' 2 (by omega) (by omega) (by omega) (by omega), k13 2 (by omega), f10 2 (by omega) (by omega), z6]
          · refine ic_C_k ?_ ?_ c
            · rw [f14' 4 (by omega) (by omega) (by omega) (by omega), k13 4 (by omega), f10 4 (by omega) (by omega), f6' 4 (by omega)]
            · rw [f14' 5 (by omega) (by omega) (by omega) (by omega), k13 5 (by omega), f10 5 (by omega) (by omega), f6' 5 (by omega)]
          · refine ic_T_k (fb14 v 1 v0 (by omega) (by omega)) (fb14 v 2 v0 (by omega) (by omega)) (f14 _ (by omega) (by omega) (by omega) (fun u _ _ => ⟨by omega, by omega, by omega, by omega⟩)) (tx13 v v0 v1)
          · rw [fld v 6 v0 v1 (by omega) (by omega) (by omega)]; exact (r v v0 v1).1
          · have vw : v < w := by
              rcases Int.lt_or_le v w with q | q
              · exact q
              · exact absurd (fz14 v q vt) vz
            have lo14 : ∀ j, (j = 119 + 6 * v ∨ j = 124 + 6 * v) → σ14 j = σ0 j := fun j hj => by
              rw [f14 j (by omega) (by omega) (by omega) (fun u _ _ => ⟨by omega, by omega, by omega, by omega⟩), k13 j (by omega), f10 j (by omega) (by omega), f6' j (by omega)]
            have rr := (r v v0 v1).2 (by omega) (by rw [← lo14 _ (Or.inl rfl)]; exact vz)
            have ec := mt_ex_c (T := mt_sT T w tb) (T' := T) (sz := mt_st sz w n) (sz' := sz) (w := v.toNat) (by omega) (fun u hu => ne u (by omega))
            rw [show ((v.toNat : Nat) : Int) = v by omega] at ec
            unfold ic_w1 at *
            rw [lo14 _ (Or.inl rfl), lo14 _ (Or.inr rfl), ec.1, ec.2]; exact rr
          · rw [f14 j (by omega) (by omega) (by omega) (fun v _ _ => ⟨by omega, by omega, by omega, by omega⟩), k13 j (by omega), f10 j (by omega) (by omega), f6' j (by omega)]
    · refine k2 z σ3 (emp σ3 (fun j hj => f3' j (by omega) (by omega) (by omega)) (by rw [f3 2 (by omega), e2])) (fun j hj => f3' j (by omega) (by omega) (by omega))
  · unfold f_X11_tell_u22; exact k1 (by omega)
/-! the class: the plain public methods -/
theorem s_goRound2 {Q : ml_St → Prop} {h : Int} {σ : ml_St} (h2 : 2 ≤ h) (h5 : h ≤ 5) (k : ∀ σ', (∀ j, j ≠ 4 → j ≠ 5 → σ' j = σ j) → σ' 4 1 = 0 → mt_eq h (σ' 5) (mt_str h) → Q σ') : f_X0_goRound σ h Q := by
  have L : ∀ (N : Nat) (n : Int) (σ1 : ml_St), 0 ≤ n → n ≤ 2 * h → 2 * h - n < N → (∀ j, j ≠ 5 → σ1 j = σ j) → (∀ e, 0 ≤ e → e < n → σ1 5 e = mt_str h e) → f_X0_goRound_u2 Q (f_X0_goRound_u35 Q) N σ1 h n := by
    intro N
    induction N with
    | zero => intro n σ1 n0 n1 hN; omega
    | succ N ih =>
      intro n σ1 n0 n1 hN f hr
      unfold f_X0_goRound_u2
      refine ⟨mt_i (by omega) (by omega), fun c => ?_, fun c => ?_⟩
      · unfold f_X0_goRound_u35
        intro σ2 s2
        exact k σ2 (fun j h1 h3 => by rw [s2, ml_up_k h1, f j h3]) (by rw [s2, ml_up_same]) (fun e e0 e1 => by rw [s2, ml_up_k (by omega)]; exact hr e e0 (by omega))
      · have one : ∀ s2, s2 = mt_str h n → f_X0_goRound_u28 Q (f_X0_goRound_u2 Q (f_X0_goRound_u35 Q) N) σ1 h n n s2 := by
          intro s2 es
          unfold f_X0_goRound_u28
          refine ⟨n0, by omega, fun σ2 g2 => ⟨mt_i (by omega) (by omega), fun y e => ?_⟩⟩
          subst e
          refine ih (n + 1) σ2 (by omega) (by omega) (by omega) (fun j hj => by rw [g2, ml_up_k hj, f j hj]) (fun e e0 e1 => ?_)
          rw [g2]
          by_cases q : e = n
          · rw [q, ml_up_same, es]
          · rw [ml_up_i q]; exact hr e e0 (by omega)
        have g := (mt_str_e h5 n0 (show n < 2 * h by omega)).1
        refine ⟨fun d => ⟨mt_i (by omega) (by omega), one _ ?_⟩, fun d => ⟨mt_i (by omega) (by omega), one _ ?_⟩⟩
        · rw [g, if_neg (by omega)]
        · rw [g, if_pos (by omega)]
  unfold f_X0_goRound f_X0_goRound_u0
  exact ⟨(2 * h).toNat + 1, L _ 0 σ (by omega) (by omega) (by omega) (fun _ _ => rfl) (fun e e0 e1 => absurd e1 (by omega))⟩
theorem c_round {Q : Int → ml_St → Prop} {h told ts cap : Int} {tb cl pr sz : Int → Int} {T : Int → Int → Int} {σ0 : ml_St} (i : IC h told ts cap tb cl pr sz T σ0) (k : ∀ σ, IC h told ts 0 tb (mt_str h) pr sz T σ → (∀ j, 215 ≤ j → σ j = σ0 j) → Q 1 σ) : f_X11_round σ0 Q := by
  obtain ⟨a, b, c, d, e, r, s⟩ := i
  obtain ⟨a1, a2, h2, h5, t0, t16⟩ := a
  unfold f_X11_round f_X11_round_u0
  rw [a1]
  refine fun _ => s_goRound2 h2 h5 (fun σ f z ec => k σ ⟨ic_A_k (f 1 (by omega) (by omega)) ⟨a1, a2, h2, h5, t0, t16⟩, ic_B_k (f 2 (by omega) (by omega)) (f 3 (by omega) (by omega)) b, ⟨z, Or.inl rfl, ec, mt_str_M h5, fun _ _ _ _ => rfl⟩, ic_D_k (fun w w0 w1 => by rw [f _ (by omega) (by omega)]) d, fun w w0 w1 => ⟨ic_T_k (by rw [f _ (by omega) (by omega)]) (by rw [f _ (by omega) (by omega)]) (f _ (by omega) (by omega)) (e w w0 w1).1, mt_wv_eq (f _ (by omega) (by omega)) (f _ (by omega) (by omega)) (f _ (by omega) (by omega)) (e w w0 w1).2⟩, ic_R_k (fun w w0 w1 => ⟨by rw [f _ (by omega) (by omega)], by rw [f _ (by omega) (by omega)], f _ (by omega) (by omega)⟩) r, ic_S_k (fun j h1 h2 => f j (by omega) (by omega)) s⟩ (fun j hj => f j (by omega) (by omega)))
theorem c_rails {Q : Int → ml_St → Prop} {h told ts cap n : Int} {tb cl pr sz : Int → Int} {T : Int → Int → Int} {σ0 : ml_St} (i : IC h told ts cap tb cl pr sz T σ0) (k0 : ¬ (2 ≤ n ∧ n ≤ 5 ∧ told = 0) → Q 0 σ0) (k1 : 2 ≤ n → n ≤ 5 → told = 0 → ∀ σ, IC n told ts 0 tb (mt_str n) pr sz T σ → (∀ j, 215 ≤ j → σ j = σ0 j) → Q 1 σ) : f_X11_rails σ0 n Q := by
  obtain ⟨a, b, c, d, e, r, s⟩ := i
  obtain ⟨a1, a2, h2, h5, t0, t16⟩ := a
  unfold f_X11_rails f_X11_rails_u0
  rw [a2]
  unfold f_X11_rails_u17
  refine ⟨fun q => k0 (by omega), fun q => ⟨fun q2 => k0 (by omega), fun q2 _ => ⟨fun q3 σ5 s5 => ?_, fun q3 => k0 (by omega)⟩⟩⟩
  have f5 : ∀ j, j ≠ 1 → σ5 j = σ0 j := fun j hj => by rw [s5, ml_up_k hj]
  have t00 : told = 0 := by omega
  refine s_goRound2 (by omega) (by omega) (fun σ f z ec => k1 (by omega) (by omega) t00 σ ?_ (fun j hj => by rw [f j (by omega) (by omega), f5 j (by omega)]))
  have f' : ∀ j, j ≠ 1 → j ≠ 4 → j ≠ 5 → σ j = σ0 j := fun j h1 h3 h4 => by rw [f j h3 h4, f5 j h1]
  have e1 : σ 1 = σ5 1 := f 1 (by omega) (by omega)
  refine ⟨⟨by rw [e1, s5, ml_up_same], by rw [e1, s5, ml_up_i (by omega), a2], by omega, by omega, t0, t16⟩, ic_B_k (f' 2 (by omega) (by omega) (by omega)) (f' 3 (by omega) (by omega) (by omega)) b, ⟨z, Or.inl rfl, ec, mt_str_M (by omega), fun _ _ _ _ => rfl⟩, ic_D_k (fun w w0 w1 => by rw [f' _ (by omega) (by omega) (by omega)]) d, fun w w0 w1 => absurd w1 (by omega), ic_R_k (fun w w0 w1 => ⟨by rw [f' _ (by omega) (by omega) (by omega)], by rw [f' _ (by omega) (by omega) (by omega)], f' _ (by omega) (by omega) (by omega)⟩) r, ?_⟩
  rcases s with s | s
  · left; rw [f' 55 (by omega) (by omega) (by omega)]; exact s
  · exact absurd s.1 (by omega)
theorem c_word {Q : Int → ml_St → Prop} {h told ts cap n : Int} {tb cl pr sz : Int → Int} {T : Int → Int → Int} {σ0 : ml_St} (i : IC h told ts cap tb cl pr sz T σ0)
    (k1 : ¬ (told ≠ 16 ∧ 1 ≤ n ∧ n ≤ 100 ∧ n ≤ ts) → Q (-1) σ0)
    (k2 : told ≠ 16 → 1 ≤ n → n ≤ 100 → n ≤ ts → mt_fl h told n tb ≠ 0 → ∀ σ, IC h told 0 cap tb cl pr sz T σ → (∀ j, 215 ≤ j → σ j = σ0 j) → Q (mt_fl h told n tb) σ)
    (k3 : told ≠ 16 → 1 ≤ n → n ≤ 100 → n ≤ ts → mt_fl h told n tb = 0 → mt_mst < mt_wo tb n h (mt_mk h T sz) 23 → ∀ σ, IC h told 0 cap tb cl pr sz T σ → (∀ j, 215 ≤ j → σ j = σ0 j) → Q (-5000 - n) σ)
    (k4 : told ≠ 16 → 1 ≤ n → n ≤ 100 → n ≤ ts → mt_fl h told n tb = 0 → mt_wo tb n h (mt_mk h T sz) 23 ≤ mt_mst → ∀ σ, IC h (told + 1) 0 cap tb cl pr (mt_st sz told n) (mt_sT T told tb) σ → (∀ j, 215 ≤ j → σ j = σ0 j) → Q told σ) : f_X11_word σ0 n Q := by
  obtain ⟨a1, a2, h2, h5, t0, t16⟩ := i.1
  unfold f_X11_word f_X11_word_u0
  rw [a2]
  refine fun _ => ⟨fun q _ => ?_, fun q => k1 (fun z => z.1 q)⟩
  refine s_tell i t0 (Int.le_refl _) (by omega) (fun z _ => k1 (fun y => z y.2)) (fun z1 z2 z3 z4 σ hi hf _ => k2 q z1 z2 z3 z4 σ hi hf) (fun z1 z2 z3 z4 z5 σ hi hf _ => k3 q z1 z2 z3 z4 z5 σ hi hf) (fun z1 z2 z3 z4 z5 σ hi hf _ => k4 q z1 z2 z3 z4 z5 σ ?_ hf)
  rw [show max told (told + 1) = told + 1 by omega] at hi
  exact hi
theorem c_change {Q : Int → ml_St → Prop} {h told ts cap w n : Int} {tb cl pr sz : Int → Int} {T : Int → Int → Int} {σ0 : ml_St} (i : IC h told ts cap tb cl pr sz T σ0)
    (k1 : ¬ ((0 ≤ w ∧ w < told) ∧ 1 ≤ n ∧ n ≤ 100 ∧ n ≤ ts) → Q (-1) σ0)
    (k2 : 0 ≤ w → w < told → 1 ≤ n → n ≤ 100 → n ≤ ts → mt_fl h w n tb ≠ 0 → ∀ σ, IC h told 0 cap tb cl pr sz T σ → (∀ j, 215 ≤ j → σ j = σ0 j) → Q (mt_fl h w n tb) σ)
    (k3 : 0 ≤ w → w < told → 1 ≤ n → n ≤ 100 → n ≤ ts → mt_fl h w n tb = 0 → mt_mst < mt_wo tb n h (mt_mk h T sz) 23 → ∀ σ, IC h told 0 cap tb cl pr sz T σ → (∀ j, 215 ≤ j → σ j = σ0 j) → Q (-5000 - n) σ)
    (k4 : 0 ≤ w → w < told → 1 ≤ n → n ≤ 100 → n ≤ ts → mt_fl h w n tb = 0 → mt_wo tb n h (mt_mk h T sz) 23 ≤ mt_mst → ∀ σ, IC h told 0 cap tb cl pr (mt_st sz w n) (mt_sT T w tb) σ → (∀ j, 215 ≤ j → σ j = σ0 j) → Q w σ) : f_X11_change σ0 w n Q := by
  obtain ⟨a1, a2, h2, h5, t0, t16⟩ := i.1
  unfold f_X11_change f_X11_change_u0
  refine s_isTold a2 (fun q0 q1 _ => ⟨fun _ => ?_, fun c => absurd c (by omega)⟩) (fun q _ => ⟨fun c => absurd rfl c, fun _ => k1 (fun z => q z.1)⟩)
  refine s_tell i q0 (by omega) (by omega) (fun z _ => k1 (fun y => z y.2)) (fun z1 z2 z3 z4 σ hi hf _ => k2 q0 q1 z1 z2 z3 z4 σ hi hf) (fun z1 z2 z3 z4 z5 σ hi hf _ => k3 q0 q1 z1 z2 z3 z4 z5 σ hi hf) (fun z1 z2 z3 z4 z5 σ hi hf _ => k4 q0 q1 z1 z2 z3 z4 z5 σ ?_ hf)
  rw [show max told (w + 1) = told by omega] at hi
  exact hi
/-- bytes -/
theorem mb_255t : ∀ i : Nat, i < 8 → (255 : Nat).testBit i = true := by decide
theorem mb_i2b_and (z : Int) : b_i2b (b_and z 255) = b_i2b z := by
  unfold b_i2b b_and
  rw [Int32.ofInt_toInt]
  congr 1
  apply Int8.toBitVec_inj.1
  show (Int32.ofInt z &&& Int32.ofInt 255).toBitVec.signExtend 8 = (Int32.ofInt z).toBitVec.signExtend 8
  rw [Int32.toBitVec_and]
  generalize (Int32.ofInt z).toBitVec = x
  have : (Int32.ofInt 255).toBitVec = 255#32 := rfl
  rw [this, BitVec.signExtend_eq_setWidth_of_le _ (by omega), BitVec.signExtend_eq_setWidth_of_le _ (by omega)]
  ext i hi
  simp
  intro _
  rw [BitVec.getElem_eq_testBit_toNat]
  exact mb_255t i hi
theorem mb_and_255 (z : Int) : 0 ≤ b_and z 255 ∧ b_and z 255 ≤ 255 := by
  unfold b_and
  generalize Int32.ofInt z = x
  have e : (x &&& Int32.ofInt 255).toBitVec.toNat ≤ 255 := by
    rw [Int32.toBitVec_and, BitVec.toNat_and]
    exact Nat.and_le_right
  rw [mb_i (by omega)]
  omega
def mt_push (tb : Int → Int) (ts x : Int) : Int → Int := fun i => if i = ts then b_i2b (b_shr x 24) else if i = ts + 1 then b_i2b (b_shr x 16) else if i = ts + 2 then b_i2b (b_shr x 8) else if i = ts + 3 then b_i2b (b_shr x 0) else tb i
theorem s_add {Q : ml_St → Prop} {ts x : Int} {tb : Int → Int} {σ : ml_St} (b : ic_B ts tb σ) (h196 : ts ≤ 196) (k : ∀ σ', (∀ j, j ≠ 2 → j ≠ 3 → σ' j = σ j) → ic_B (ts + 4) (mt_push tb ts x) σ' → Q σ') : f_X8_add σ x Q := by
  obtain ⟨b1, b2, b3, b4⟩ := b
  have one : ∀ (N : Nat) (s t : Int) (τ : ml_St), 0 ≤ s → s ≤ 24 → τ 2 1 = t → 0 ≤ t → t < 200 → f_X8_add_u3 Q (f_X8_add_u49 Q) N (ml_up (ml_up τ 3 t (b_and (b_shr x s) 255)) 2 1 (t + 1)) x (s - 8) → f_X8_add_u3 Q (f_X8_add_u49 Q) (N + 1) τ x s := by
    intro N s t τ s0 s1 e t0 t1 kk
    unfold f_X8_add_u3
    rw [e]
    refine ⟨fun c => absurd c (by omega), fun _ _ => ⟨fun c => absurd c (by omega), fun _ _ => ⟨t0, t1, fun σ5 s5 => ?_⟩⟩⟩
    rw [s5, ml_up_k (by omega), e]
    refine fun _ => ⟨mt_I (by omega) (by omega), fun σ8 s8 => ⟨mt_I (by omega) (by omega), fun y9 e9 => ?_⟩⟩
    rw [s8, e9]
    exact kk
  unfold f_X8_add f_X8_add_u0
  refine ⟨5, one 4 24 ts σ (by omega) (by omega) b1 b2 (by omega) (one 3 16 (ts + 1) _ (by omega) (by omega) (ml_up_same _ _ _ _) (by omega) (by omega) (one 2 8 (ts + 2) _ (by omega) (by omega) ?_ (by omega) (by omega) (one 1 0 (ts + 3) _ (by omega) (by omega) ?_ (by omega) (by omega) ?_)))⟩
  · rw [ml_up_same]; omega
  · rw [ml_up_same]; omega
  · unfold f_X8_add_u3
    refine ⟨fun _ => ?_, fun c => absurd c (by omega)⟩
    unfold f_X8_add_u49
    refine k _ (fun j h1 h2 => by rw [ml_up_k h1, ml_up_k h2, ml_up_k h1, ml_up_k h2, ml_up_k h1, ml_up_k h2, ml_up_k h1, ml_up_k h2]) ⟨by rw [ml_up_same]; omega, by omega, by omega, fun i i0 i1 => ?_⟩
    have n32 : (3 : Int) ≠ 2 := by omega
    simp only [mt_up2, n32, false_and, if_false, true_and]
    unfold mt_push
    have p := fun z => mb_and_255 (b_shr x z)
    have q := fun z => mb_i2b_and (b_shr x z)
    by_cases c0 : i = ts
    · subst c0
      rw [if_neg (by omega), if_neg (by omega), if_neg (by omega), if_pos rfl, if_pos rfl]
      exact ⟨(p 24).1, (p 24).2, q 24⟩
    rw [if_neg c0]
    by_cases c1 : i = ts + 1
    · rw [if_neg (by omega), if_neg (by omega), if_pos c1, if_neg c0, if_pos c1]
      exact ⟨(p 16).1, (p 16).2, q 16⟩
    rw [if_neg c1]
    by_cases c2 : i = ts + 2
    · rw [if_neg (by omega), if_pos c2, if_neg c0, if_neg c1, if_pos c2]
      exact ⟨(p 8).1, (p 8).2, q 8⟩
    rw [if_neg c2]
    by_cases c3 : i = ts + 3
    · rw [if_pos c3, if_neg c0, if_neg c1, if_neg c2, if_pos c3]
      exact ⟨(p 0).1, (p 0).2, q 0⟩
    rw [if_neg c3, if_neg c0, if_neg c1, if_neg c2, if_neg c3]
    exact b4 i i0 (by omega)
def mt_fed (tb : Int → Int) (ts a b c d e : Int) : Int → Int := mt_push (mt_push (mt_push (mt_push (mt_push tb ts a) (ts + 4) b) (ts + 8) c) (ts + 12) d) (ts + 16) e
theorem c_feed {Q : Int → ml_St → Prop} {h told ts cap x1 x2 x3 x4 x5 : Int} {tb cl pr sz : Int → Int} {T : Int → Int → Int} {σ0 : ml_St} (i : IC h told ts cap tb cl pr sz T σ0) (k0 : 180 < ts → Q (-1) σ0) (k1 : ts ≤ 180 → ∀ σ, IC h told (ts + 20) cap (mt_fed tb ts x1 x2 x3 x4 x5) cl pr sz T σ → (∀ j, 215 ≤ j → σ j = σ0 j) → Q (ts + 20) σ) : f_X11_feed σ0 x1 x2 x3 x4 x5 Q := by
  obtain ⟨a, b, c, d, e, r, s⟩ := i
  have b1 := b.1
  have b2 := b.2.1
  have b3 := b.2.2.1
  unfold f_X11_feed f_X11_feed_u0
  rw [b1]
  refine fun _ => ⟨mt_I (by omega) (by omega), fun q => ?_, fun q => k0 (by omega)⟩
  refine s_add b (by omega) (fun σ1 f1 g1 => s_add g1 (by omega) (fun σ2 f2 g2 => s_add g2 (by omega) (fun σ3 f3 g3 => s_add g3 (by omega) (fun σ4 f4 g4 => s_add g4 (by omega) (fun σ5 f5 g5 => ?_)))))
  rw [g5.1]
  have e20 : ts + 4 + 4 + 4 + 4 + 4 = ts + 20 := by omega
  rw [e20] at g5 ⊢
  rw [show ts + 4 + 4 + 4 + 4 = ts + 16 by omega, show ts + 4 + 4 + 4 = ts + 12 by omega, show ts + 4 + 4 = ts + 8 by omega] at g5
  have f : ∀ j, j ≠ 2 → j ≠ 3 → σ5 j = σ0 j := fun j h1 h2 => by rw [f5 j h1 h2, f4 j h1 h2, f3 j h1 h2, f2 j h1 h2, f1 j h1 h2]
  have t16 : told ≤ 16 := a.2.2.2.2.2
  refine fun _ => k1 (by omega) σ5 ⟨ic_A_k (f 1 (by omega) (by omega)) a, g5, ic_C_k (f 4 (by omega) (by omega)) (f 5 (by omega) (by omega)) c, ic_D_k (fun w w0 w1 => by rw [f _ (by omega) (by omega)]) d, fun w w0 w1 => ⟨ic_T_k (by rw [f _ (by omega) (by omega)]) (by rw [f _ (by omega) (by omega)]) (f _ (by omega) (by omega)) (e w w0 w1).1, mt_wv_eq (f _ (by omega) (by omega)) (f _ (by omega) (by omega)) (f _ (by omega) (by omega)) (e w w0 w1).2⟩, ic_R_k (fun w w0 w1 => ⟨by rw [f _ (by omega) (by omega)], by rw [f _ (by omega) (by omega)], f _ (by omega) (by omega)⟩) r, ic_S_k (fun j h1 h2 => f j (by omega) (by omega)) s⟩ (fun j hj => f j (by omega) (by omega))
/-- the unsigned byte -/
def mt_ub (tb : Int → Int) (i : Int) : Int := b_and (tb i) 255
theorem mb_ub {x : Int} (h0 : 0 ≤ x) (h1 : x ≤ 255) : b_and (b_i2b x) 255 = x := by
  have k : ∀ n : Nat, n < 256 → b_and (b_i2b (n : Int)) 255 = n := by decide +kernel
  have := k x.toNat (by omega)
  rw [show ((x.toNat : Nat) : Int) = x by omega] at this
  exact this
theorem ic_B_u {ts : Int} {tb : Int → Int} {σ : ml_St} (b : ic_B ts tb σ) {i : Int} (i0 : 0 ≤ i) (i1 : i < ts) : σ 3 i = mt_ub tb i := by
  obtain ⟨g1, g2, g3⟩ := b.2.2.2 i i0 i1
  unfold mt_ub
  rw [← g3, mb_ub g1 g2]
/-- bytes that are caps -/
def mt_capx (h : Int) (u : Int → Int) (e : Int) : Prop := u e < 2 * h ∧ u e ≠ e ∧ (u e < h ↔ e < h) ∧ u (u e) = e
def mt_cap (h : Int) (u : Int → Int) : Prop := ∀ e, 0 ≤ e → e < 2 * h → mt_capx h u e
theorem mt_cap_M {h : Int} {u : Int → Int} (u0 : ∀ e, 0 ≤ e → e < 2 * h → 0 ≤ u e) (c : mt_cap h u) : mt_M h u := fun e e0 e1 => ⟨u0 e e0 e1, (c e e0 e1).1, (c e e0 e1).2.2.2, (c e e0 e1).2.1⟩
theorem IC_B0 {h told ts cap : Int} {tb cl pr sz : Int → Int} {T : Int → Int → Int} {σ0 σ : ml_St} (f : ∀ j, j ≠ 2 → (j ≤ 5 ∨ (55 ≤ j ∧ j ≤ 63) ∨ 118 < j) → σ j = σ0 j) (z : σ 2 1 = 0) (i : IC h told ts cap tb cl pr sz T σ0) : IC h told 0 cap tb cl pr sz T σ := by
  obtain ⟨a, b, c, d, e, r, s⟩ := i
  have t16 : told ≤ 16 := a.2.2.2.2.2
  exact ⟨ic_A_k (f 1 (by omega) (by omega)) a, ⟨z, by omega, by omega, fun i i0 i1 => absurd i1 (by omega)⟩, ic_C_k (f 4 (by omega) (by omega)) (f 5 (by omega) (by omega)) c, ic_D_k (fun w w0 w1 => by rw [f _ (by omega) (by omega)]) d, fun w w0 w1 => ⟨ic_T_k (by rw [f _ (by omega) (by omega)]) (by rw [f _ (by omega) (by omega)]) (f _ (by omega) (by omega)) (e w w0 w1).1, mt_wv_eq (f _ (by omega) (by omega)) (f _ (by omega) (by omega)) (f _ (by omega) (by omega)) (e w w0 w1).2⟩, ic_R_k (fun w w0 w1 => ⟨by rw [f _ (by omega) (by omega)], by rw [f _ (by omega) (by omega)], f _ (by omega) (by omega)⟩) r, ic_S_k (fun j h1 h2 => f j (by omega) (by omega)) s⟩
theorem c_caps {Q : Int → ml_St → Prop} {h told ts cap : Int} {tb cl pr sz : Int → Int} {T : Int → Int → Int} {σ0 : ml_St} (i : IC h told ts cap tb cl pr sz T σ0) (k0 : ¬ (h % 2 = 0 ∧ 2 * h ≤ ts) → Q 0 σ0) (k1 : h % 2 = 0 → 2 * h ≤ ts → ¬ mt_cap h (mt_ub tb) → ∀ σ, IC h told 0 cap tb cl pr sz T σ → (∀ j, 215 ≤ j → σ j = σ0 j) → Q 0 σ) (k2 : h % 2 = 0 → 2 * h ≤ ts → mt_cap h (mt_ub tb) → ∀ σ, IC h told 0 1 tb (mt_ub tb) pr sz T σ → (∀ j, 215 ≤ j → σ j = σ0 j) → Q 1 σ) : f_X11_caps σ0 Q := by
  have i0 := i
  obtain ⟨a, b, c, d, e, r, s⟩ := i
  obtain ⟨a1, a2, h2, h5, t0, t16⟩ := a
  have tm : Int.tmod h 2 = h % 2 := Int.tmod_eq_emod_of_nonneg (by omega)
  unfold f_X11_caps f_X11_caps_u0
  rw [a1, b.1, tm]
  unfold f_X11_caps_u25
  refine fun _ => ⟨by omega, mt_I (by omega) (by omega), fun q => k0 (fun z => q z.1), fun q _ _ => ⟨mt_I (by omega) (by omega), fun q2 _ => ?_, fun q2 => k0 (fun z => q2 z.2)⟩⟩
  have k1 := k1 q q2
  have k2 := k2 q q2
  have u : ∀ i, 0 ≤ i → i < 2 * h → σ0 3 i = mt_ub tb i ∧ 0 ≤ mt_ub tb i := fun i i0 i1 => by
    have e := ic_B_u b i0 (show i < ts by omega)
    exact ⟨e, by rw [← e]; exact (b.2.2.2 i i0 (by omega)).1⟩
  have NO : ¬ mt_cap h (mt_ub tb) → f_X0_goByCaps_u66 (fun r9 σ9 => ∀ _ : ml_B r9, ∀ σ10, σ10 = ml_up σ9 2 1 0 → Q r9 σ10) σ0 := by
    intro nc
    unfold f_X0_goByCaps_u66
    intro _ σ10 s10
    exact k1 nc σ10 (IC_B0 (fun j h1 _ => by rw [s10, ml_up_k h1]) (by rw [s10, ml_up_same]) i0) (fun j hj => by rw [s10, ml_up_k (by omega)])
  have L : ∀ (N : Nat) (n : Int), 0 ≤ n → n ≤ 2 * h → 2 * h - n < N → (∀ x, 0 ≤ x → x < n → mt_capx h (mt_ub tb) x) → f_X0_goByCaps_u2 (fun r9 σ9 => ∀ _ : ml_B r9, ∀ σ10, σ10 = ml_up σ9 2 1 0 → Q r9 σ10) (f_X0_goByCaps_u66 (fun r9 σ9 => ∀ _ : ml_B r9, ∀ σ10, σ10 = ml_up σ9 2 1 0 → Q r9 σ10)) (f_X0_goByCaps_u74 (fun r9 σ9 => ∀ _ : ml_B r9, ∀ σ10, σ10 = ml_up σ9 2 1 0 → Q r9 σ10)) N σ0 h n := by
    intro N
    induction N with
    | zero => intro n n0 n1 hN; omega
    | succ N ih =>
      intro n n0 n1 hN hc
      unfold f_X0_goByCaps_u2
      refine ⟨mt_i (by omega) (by omega), fun z => ?_, fun z => ⟨n0, by omega, fun _ y4 e4 => ⟨mt_i (by omega) (by omega), fun z2 => ?_, fun z2 => ⟨fun z3 => ?_, fun z3 => ?_⟩⟩⟩⟩
      · have hcap : mt_cap h (mt_ub tb) := fun x x0 x1 => hc x x0 (by omega)
        unfold f_X0_goByCaps_u74
        refine ⟨mt_i (by omega) (by omega), by omega, by omega, by omega, by omega, by omega, fun σ2 s2 σ3 s3 _ σ10 s10 => ?_⟩
        have f10 : ∀ j, j ≠ 2 → j ≠ 4 → j ≠ 5 → σ10 j = σ0 j := fun j h1 h3 h4 => by rw [s10, ml_up_k h1, s3, ml_up_k h3, s2, mt_cpy_k h4]
        refine k2 hcap σ10 ⟨ic_A_k (f10 1 (by omega) (by omega) (by omega)) ⟨a1, a2, h2, h5, t0, t16⟩, ⟨by rw [s10, ml_up_same], by omega, by omega, fun i i0 i1 => absurd i1 (by omega)⟩, ⟨?_, Or.inr rfl, fun x x0 x1 => ?_, mt_cap_M (fun x x0 x1 => (u x x0 x1).2) hcap, fun z => absurd z (by omega)⟩, ic_D_k (fun w w0 w1 => by rw [f10 _ (by omega) (by omega) (by omega)]) d, fun w w0 w1 => ⟨ic_T_k (by rw [f10 _ (by omega) (by omega) (by omega)]) (by rw [f10 _ (by omega) (by omega) (by omega)]) (f10 _ (by omega) (by omega) (by omega)) (e w w0 w1).1, mt_wv_eq (f10 _ (by omega) (by omega) (by omega)) (f10 _ (by omega) (by omega) (by omega)) (f10 _ (by omega) (by omega) (by omega)) (e w w0 w1).2⟩, ic_R_k (fun w w0 w1 => ⟨by rw [f10 _ (by omega) (by omega) (by omega)], by rw [f10 _ (by omega) (by omega) (by omega)], f10 _ (by omega) (by omega) (by omega)⟩) r, ic_S_k (fun j h1 h2 => f10 j (by omega) (by omega) (by omega)) s⟩ (fun j hj => f10 j (by omega) (by omega) (by omega))
        · rw [s10, ml_up_k (by omega), s3, ml_up_same]
        · rw [s10, ml_up_k (by omega), s3, ml_up_k (by omega), s2, mt_cpy2, if_pos ⟨rfl, x0, by omega⟩, ← (u x x0 x1).1]
          congr 1; omega
      · rw [(u n n0 (by omega)).1] at e4
        exact NO (fun z => by have := (z n n0 (by omega)).1; omega)
      · rw [(u n n0 (by omega)).1] at e4
        exact NO (fun z => (z n n0 (by omega)).2.1 (by omega))
      · rw [(u n n0 (by omega)).1] at e4
        have y0 : 0 ≤ y4 := by rw [e4]; exact (u n n0 (by omega)).2
        have go : ∀ s0 s1 : Int, (s0 = if y4 < h then 0 else 1) → (s1 = if n < h then 0 else 1) → f_X0_goByCaps_u52 (fun r9 σ9 => ∀ _ : ml_B r9, ∀ σ10, σ10 = ml_up σ9 2 1 0 → Q r9 σ10) (f_X0_goByCaps_u2 (fun r9 σ9 => ∀ _ : ml_B r9, ∀ σ10, σ10 = ml_up σ9 2 1 0 → Q r9 σ10) (f_X0_goByCaps_u66 (fun r9 σ9 => ∀ _ : ml_B r9, ∀ σ10, σ10 = ml_up σ9 2 1 0 → Q r9 σ10)) (f_X0_goByCaps_u74 (fun r9 σ9 => ∀ _ : ml_B r9, ∀ σ10, σ10 = ml_up σ9 2 1 0 → Q r9 σ10)) N) (f_X0_goByCaps_u66 (fun r9 σ9 => ∀ _ : ml_B r9, ∀ σ10, σ10 = ml_up σ9 2 1 0 → Q r9 σ10)) σ0 h n y4 s0 s1 := by
          intro s0 s1 e0 e1
          unfold f_X0_goByCaps_u52
          refine ⟨fun z4 => NO (fun z => ?_), fun z4 => ⟨y0, by omega, ?_⟩⟩
          · have := (z n n0 (by omega)).2.2.1
            rw [← e4] at this
            rw [e0, e1] at z4
            by_cases y : y4 < h
            · rw [if_pos y, if_pos (this.1 y)] at z4; exact z4 rfl
            · rw [if_neg y, if_neg (fun q => y (this.2 q))] at z4; exact z4 rfl
          · rw [(u y4 y0 (by omega)).1]
            refine fun _ => ⟨fun z5 => ⟨mt_i (by omega) (by omega), fun y e => ?_⟩, fun z5 => NO (fun z => z5 ?_)⟩
            · subst e
              refine ih (n + 1) (by omega) (by omega) (by omega) (fun x x0 x1 => ?_)
              by_cases w : x = n
              · subst w
                refine ⟨by omega, by omega, ?_, by rw [← e4]; exact z5⟩
                rw [← e4]
                rw [e0, e1] at z4
                constructor
                · intro q
                  rcases Int.lt_or_le x h with v | v
                  · exact v
                  · rw [if_pos q, if_neg (by omega)] at z4; omega
                · intro q
                  rcases Int.lt_or_le y4 h with v | v
                  · exact v
                  · rw [if_neg (by omega), if_pos q] at z4; omega
              · exact hc x x0 (by omega)
            · have := (z n n0 (by omega)).2.2.2
              rw [← e4] at this; exact this
        refine ⟨fun z4 => ?_, fun z4 => ?_⟩
        · unfold f_X0_goByCaps_u42
          exact ⟨fun z5 => go 0 0 (by rw [if_pos z4]) (by rw [if_pos z5]), fun z5 => go 0 1 (by rw [if_pos z4]) (by rw [if_neg z5])⟩
        · unfold f_X0_goByCaps_u42
          exact ⟨fun z5 => go 1 0 (by rw [if_neg z4]) (by rw [if_pos z5]), fun z5 => go 1 1 (by rw [if_neg z4]) (by rw [if_neg z5])⟩
  unfold f_X0_goByCaps f_X0_goByCaps_u0
  exact ⟨(2 * h).toNat + 1, L _ 0 (by omega) (by omega) (by omega) (fun x x0 x1 => absurd x1 (by omega))⟩
/-- WORD w is told and not TOO LONG -/
def mt_md (told : Int) (mk : Int → Int → Int) (w : Int) : Prop := 0 ≤ w ∧ w < told ∧ mk w 23 ≤ mt_mst
theorem IC_w {h told ts cap : Int} {tb cl pr sz : Int → Int} {T : Int → Int → Int} {σ : ml_St} (i : IC h told ts cap tb cl pr sz T σ) {w : Int} (w0 : 0 ≤ w) (w1 : w < told) : ic_T h T sz w σ ∧ mt_wv h σ (121 + 6 * w) (mt_mk h T sz w) ∧ mt_M h (mt_mk h T sz w) ∧ mt_ok h (mt_mk h T sz w) := by
  obtain ⟨a, b, c, d, e, r, s⟩ := i
  have t16 := a.2.2.2.2.2
  have := mt_mk_ok (T := T) (sz := sz) a.2.2.2.1 w.toNat (by omega) (fun v hv => (e v (by omega) (by omega)).1.1)
  rw [show ((w.toNat : Nat) : Int) = w by omega] at this
  exact ⟨(e w w0 w1).1, (e w w0 w1).2, this.1, this.2⟩
theorem c_isMade {Q : Int → ml_St → Prop} {h told ts cap w : Int} {tb cl pr sz : Int → Int} {T : Int → Int → Int} {σ : ml_St} (i : IC h told ts cap tb cl pr sz T σ) (k1 : mt_md told (mt_mk h T sz) w → Q 1 σ) (k0 : ¬ mt_md told (mt_mk h T sz) w → Q 0 σ) : f_X11_isMade σ w Q := by
  refine s_isMade i.1.2.2.2.2.2 i.1.2.1 (fun w0 w1 q => k1 ⟨w0, w1, ?_⟩) (fun q => k0 (fun z => q ⟨z.1, z.2.1, ?_⟩))
  · rw [← (IC_w i w0 w1).2.1.2.2.2.2.1]; exact q
  · rw [(IC_w i z.1 z.2.1).2.1.2.2.2.2.1]; exact z.2.2
theorem c_signs {Q : Int → ml_St → Prop} {h told ts cap w : Int} {tb cl pr sz : Int → Int} {T : Int → Int → Int} {σ : ml_St} (i : IC h told ts cap tb cl pr sz T σ) (k1 : 0 ≤ w → w < told → Q (mt_mk h T sz w 23) σ) (k0 : ¬ (0 ≤ w ∧ w < told) → Q (-1) σ) : f_X11_signs σ w Q := by
  have t16 := i.1.2.2.2.2.2
  unfold f_X11_signs f_X11_signs_u0
  refine s_isTold i.1.2.1 (fun w0 w1 _ => ⟨fun c => absurd c (by omega), fun _ => ⟨w0, by omega, ?_⟩⟩) (fun q _ => ⟨fun _ => ?_, fun c => absurd rfl c⟩)
  · rw [show 119 + 6 * w + 2 = 121 + 6 * w by omega, (IC_w i w0 w1).2.1.2.2.2.2.1]
    unfold f_X11_signs_u26
    exact fun _ => k1 w0 w1
  · unfold f_X11_signs_u26; exact k0 q
theorem c_joined {Q : Int → ml_St → Prop} {h told ts cap w e : Int} {tb cl pr sz : Int → Int} {T : Int → Int → Int} {σ : ml_St} (i : IC h told ts cap tb cl pr sz T σ) (k1 : mt_md told (mt_mk h T sz) w → 0 ≤ e → e < 2 * h → Q (mt_mk h T sz w e) σ) (k0 : ¬ (mt_md told (mt_mk h T sz) w ∧ 0 ≤ e ∧ e < 2 * h) → Q (-1) σ) : f_X11_joined σ w e Q := by
  have a := i.1
  unfold f_X11_joined f_X11_joined_u0
  refine c_isMade i (fun q _ => ⟨fun c => absurd c (by omega), fun _ => ?_⟩) (fun q _ => ⟨fun _ => ?_, fun c => absurd rfl c⟩)
  · refine s_isEnd a.2.2.1 a.2.2.2.1 a.1 (fun e0 e1 _ => ⟨fun c => absurd c (by omega), fun _ => ⟨q.1, by have := q.2.1; have := a.2.2.2.2.2; omega, e0, by have := a.2.2.2.1; omega, ?_⟩⟩) (fun q2 _ => ⟨fun _ => ?_, fun c => absurd rfl c⟩)
    · rw [show 119 + 6 * w + 2 + 1 = 121 + 6 * w + 1 by omega, ((IC_w i q.1 q.2.1).2.1.1 e e0 e1).1]
      unfold f_X11_joined_u34
      exact fun _ => k1 q e0 e1
    · unfold f_X11_joined_u33 f_X11_joined_u34; exact k0 (fun z => q2 z.2)
  · unfold f_X11_joined_u33 f_X11_joined_u34; exact k0 (fun z => q z.1)
theorem c_length {Q : Int → ml_St → Prop} {h told ts cap w e : Int} {tb cl pr sz : Int → Int} {T : Int → Int → Int} {σ : ml_St} (i : IC h told ts cap tb cl pr sz T σ) (k1 : mt_md told (mt_mk h T sz) w → 0 ≤ e → e < 2 * h → Q (mt_mk h T sz w (10 + e)) σ) (k0 : ¬ (mt_md told (mt_mk h T sz) w ∧ 0 ≤ e ∧ e < 2 * h) → Q (-1) σ) : f_X11_length σ w e Q := by
  have a := i.1
  unfold f_X11_length f_X11_length_u0
  refine c_isMade i (fun q _ => ⟨fun c => absurd c (by omega), fun _ => ?_⟩) (fun q _ => ⟨fun _ => ?_, fun c => absurd rfl c⟩)
  · refine s_isEnd a.2.2.1 a.2.2.2.1 a.1 (fun e0 e1 _ => ⟨fun c => absurd c (by omega), fun _ => ⟨q.1, by have := q.2.1; have := a.2.2.2.2.2; omega, e0, by have := a.2.2.2.1; omega, ?_⟩⟩) (fun q2 _ => ⟨fun _ => ?_, fun c => absurd rfl c⟩)
    · rw [show 119 + 6 * w + 2 + 2 = 121 + 6 * w + 2 by omega, ((IC_w i q.1 q.2.1).2.1.1 e e0 e1).2]
      unfold f_X11_length_u36
      exact fun _ => k1 q e0 e1
    · unfold f_X11_length_u33 f_X11_length_u36; exact k0 (fun z => q2 z.2)
  · unfold f_X11_length_u33 f_X11_length_u36; exact k0 (fun z => q z.1)
theorem c_loops {Q : Int → ml_St → Prop} {h told ts cap w x : Int} {tb cl pr sz : Int → Int} {T : Int → Int → Int} {σ : ml_St} (i : IC h told ts cap tb cl pr sz T σ) (k1 : mt_md told (mt_mk h T sz) w → 0 ≤ x → x ≤ 3 → Q (if x = 0 then mt_mk h T sz w 20 else if x = 1 then mt_mk h T sz w 21 else if x = 2 then mt_mk h T sz w 22 else w64 (mt_mk h T sz w 20 + mt_cl h (mt_mk h T sz w) cl)) σ) (k0 : ¬ (mt_md told (mt_mk h T sz) w ∧ 0 ≤ x ∧ x ≤ 3) → Q (-1) σ) : f_X11_loops σ w x Q := by
  have a := i.1
  have c := i.2.2.1
  unfold f_X11_loops f_X11_loops_u0
  refine c_isMade i (fun q _ => ⟨fun _ => ⟨q.1, by have := q.2.1; have := a.2.2.2.2.2; omega, ?_⟩, fun c => absurd c (by omega)⟩) (fun q _ => ⟨fun c => absurd rfl c, fun _ => k0 (fun z => q z.1)⟩)
  obtain ⟨g1, g2, g3, g4⟩ := IC_w i q.1 q.2.1
  rw [show 119 + 6 * w + 2 = 121 + 6 * w by omega, g2.2.1, g2.2.2.1, g2.2.2.2.1, a.1]
  refine ⟨fun z _ => ?_, fun z _ => ?_, fun z _ => ?_, fun z _ _ => ?_, fun z => k0 (fun y => by omega)⟩
  · have := k1 q (by omega) (by omega); rw [if_pos z] at this; exact this
  · have := k1 q (by omega) (by omega); rw [if_neg (by omega), if_pos z] at this; exact this
  · have := k1 q (by omega) (by omega); rw [if_neg (by omega), if_neg (by omega), if_pos z] at this; exact this
  · refine s_loopsBy a.2.2.1 a.2.2.2.1 g3 c.2.2.2.1 (mt_eq_wa g2).1 c.2.2.1 (fun _ => ?_)
    have := k1 q (by omega) (by omega); rw [if_neg (by omega), if_neg (by omega), if_neg (by omega)] at this; exact this
theorem c_is {Q : Int → ml_St → Prop} {h told ts cap w x : Int} {tb cl pr sz : Int → Int} {T : Int → Int → Int} {σ : ml_St} (i : IC h told ts cap tb cl pr sz T σ) (k1 : 0 ≤ w → w < told → 0 ≤ x → x ≤ 3 → Q (if x = 0 then (if mt_mk h T sz w 24 = 0 then 1 else 0) else if x = 1 then (if mt_mk h T sz w 25 = 0 then 1 else 0) else if x = 2 then (if mt_pl (T w) (sz w).toNat = 0 then 0 else 1) else (if mt_mk h T sz w 23 ≤ mt_mst then 0 else 1)) σ) (k0 : ¬ ((0 ≤ w ∧ w < told) ∧ 0 ≤ x ∧ x ≤ 3) → Q (-1) σ) : f_X11_is σ w x Q := by
  have a := i.1
  unfold f_X11_is f_X11_is_u0
  refine s_isTold a.2.1 (fun w0 w1 _ => ⟨fun _ => ?_, fun c => absurd c (by omega)⟩) (fun q _ => ⟨fun c => absurd rfl c, fun _ => k0 (fun z => q z.1)⟩)
  have w16 : w < 16 := by have := a.2.2.2.2.2; omega
  obtain ⟨g1, g2, g3, g4⟩ := IC_w i w0 w1
  have k1 := k1 w0 w1
  rw [show 119 + 6 * w + 2 = 121 + 6 * w by omega, g2.2.2.2.2.2.1, g2.2.2.2.2.2.2, g1.2.2.2]
  unfold f_X11_is_u60 f_X11_is_u81 f_X11_is_u99
  refine ⟨fun z => ⟨w0, w16, fun _ => ⟨fun y => ?_, fun y => ?_⟩⟩, fun z => ⟨w0, w16, fun _ => ⟨fun y => ?_, fun y => ?_⟩⟩, fun z => ⟨w0, w16, fun _ => ⟨fun y => ?_, fun y => ?_⟩⟩, fun z => ⟨w0, w16, ?_⟩, fun z => k0 (fun y => by omega)⟩
  · have := k1 (by omega) (by omega); rw [if_pos z, if_pos y] at this; exact this
  · have := k1 (by omega) (by omega); rw [if_pos z, if_neg y] at this; exact this
  · have := k1 (by omega) (by omega); rw [if_neg (by omega), if_pos z, if_pos y] at this; exact this
  · have := k1 (by omega) (by omega); rw [if_neg (by omega), if_pos z, if_neg y] at this; exact this
  · have := k1 (by omega) (by omega); rw [if_neg (by omega), if_neg (by omega), if_pos z, if_pos y] at this; exact this
  · have := k1 (by omega) (by omega); rw [if_neg (by omega), if_neg (by omega), if_pos z, if_neg y] at this; exact this
  · have k := k1 (by omega) (by omega)
    rw [if_neg (by omega), if_neg (by omega), if_neg (by omega), ← g2.2.2.2.2.1] at k
    refine s_isTooLong9 (fun c _ => ⟨fun d => absurd d (by omega), fun _ => ?_⟩) (fun c _ => ⟨fun _ => ?_, fun d => absurd rfl d⟩)
    · unfold f_X11_is_u120; rw [if_neg (by omega)] at k; exact k
    · unfold f_X11_is_u120; rw [if_pos c] at k; exact k
theorem c_both {Q : Int → ml_St → Prop} {h told ts cap a b x : Int} {tb cl pr sz : Int → Int} {T : Int → Int → Int} {σ0 : ml_St} (i : IC h told ts cap tb cl pr sz T σ0) (k1 : mt_md told (mt_mk h T sz) a → mt_md told (mt_mk h T sz) b → 0 ≤ x → x ≤ 3 → ∀ σ, IC h told ts cap tb cl pr sz T σ → (∀ j, 215 ≤ j → σ j = σ0 j) → Q (if x = 0 then mt_alike h (mt_mk h T sz a) (mt_mk h T sz b) else if x = 1 then mt_alike h (mt_both h (mt_mk h T sz a) (mt_mk h T sz b)) (mt_both h (mt_mk h T sz b) (mt_mk h T sz a)) else if x = 2 then mt_alike h (mt_both h (mt_mk h T sz a) (mt_mk h T sz b)) (mt_mk h T sz a) else mt_alike h (mt_both h (mt_mk h T sz a) (mt_mk h T sz b)) (mt_str h)) σ) (k0 : ¬ (mt_md told (mt_mk h T sz) a ∧ mt_md told (mt_mk h T sz) b ∧ 0 ≤ x ∧ x ≤ 3) → Q (-1) σ0) : f_X11_both σ0 a b x Q := by
  have ia := i.1
  have t16 := ia.2.2.2.2.2
  have h2 := ia.2.2.1
  have h5 := ia.2.2.2.1
  have al : ∀ v w, mt_alike h v w = 0 ∨ mt_alike h v w = 1 := fun v w => (mt_al_i (v := v) (w := w) (a := if v 20 = w 20 then 1 else 0) (by split <;> omega) (2 * h).toNat).1
  unfold f_X11_both f_X11_both_u0
  refine c_isMade i (fun q _ => ⟨fun c => absurd c (by omega), fun _ => ?_⟩) (fun q _ => ⟨fun _ => ?_, fun c => absurd rfl c⟩)
  · refine c_isMade i (fun q2 _ => ⟨fun _ => ⟨q.1, by have := q.2.1; omega, q2.1, by have := q2.2.1; omega, ?_⟩, fun c => absurd c (by omega)⟩) (fun q2 _ => ⟨fun c => absurd rfl c, fun _ => ?_⟩)
    · obtain ⟨g1, g2, g3, g4⟩ := IC_w i q.1 q.2.1
      obtain ⟨f1, f2, f3, f4⟩ := IC_w i q2.1 q2.2.1
      have qa := q.1
      have qb := q2.1
      rw [show 119 + 6 * a + 2 = 121 + 6 * a by omega, show 119 + 6 * b + 2 = 121 + 6 * b by omega, ia.1]
      unfold f_X11_both_u91 f_X11_both_u115 f_X11_both_u139 f_X11_both_u163
      refine ⟨fun z _ => ?_, fun z _ => ?_, fun z _ => ?_, fun z _ => ?_, fun z => k0 (fun y => by omega)⟩
      · have k := k1 q q2 (by omega) (by omega) σ0 i (fun _ _ => rfl)
        rw [if_pos z] at k
        refine s_isAlike h2 h5 g2 f2 (fun _ => ⟨fun c => ?_, fun c => ?_⟩)
        · rw [c] at k; exact k
        · rw [(al _ _).resolve_left c] at k; exact k
      · unfold f_X4_changePlaces f_X4_changePlaces_u0
        refine s_beBoth h2 h5 (by omega) (by omega) g3 f3 g2 f2 (fun σ1 p1 w1 => ?_)
        refine s_beBoth h2 h5 (by omega) (by omega) f3 g3 (mt_wv_fr p1 (by omega) f2) (mt_wv_fr p1 (by omega) g2) (fun σ2 p2 w2 => ?_)
        have kp : mt_kp σ0 σ2 := mt_kp_t (mt_kp_fr (by omega) (by omega) p1) (mt_kp_fr (by omega) (by omega) p2)
        have k := k1 q q2 (by omega) (by omega) σ2 (IC_kp kp i) (mt_kp_m kp)
        rw [if_neg (by omega), if_pos z] at k
        refine s_isAlike h2 h5 (mt_wv_fr p2 (by omega) w1) w2 (fun _ _ => ⟨fun c => ?_, fun c => ?_⟩)
        · rw [c] at k; exact k
        · rw [(al _ _).resolve_left c] at k; exact k
      · unfold f_X4_takesUp f_X4_takesUp_u0
        refine s_beBoth h2 h5 (by omega) (by omega) g3 f3 g2 f2 (fun σ1 p1 w1 => ?_)
        have kp : mt_kp σ0 σ1 := mt_kp_fr (by omega) (by omega) p1
        have k := k1 q q2 (by omega) (by omega) σ1 (IC_kp kp i) (mt_kp_m kp)
        rw [if_neg (by omega), if_neg (by omega), if_pos z] at k
        refine s_isAlike h2 h5 w1 (mt_wv_fr p1 (by omega) g2) (fun _ _ => ⟨fun c => ?_, fun c => ?_⟩)
        · rw [c] at k; exact k
        · rw [(al _ _).resolve_left c] at k; exact k
      · unfold f_X4_comesBack f_X4_comesBack_u0
        refine s_beBoth h2 h5 (by omega) (by omega) g3 f3 g2 f2 (fun σ1 p1 w1 => ?_)
        refine s_beStraight h2 h5 (fun σ2 p2 w2 => ?_)
        have kp : mt_kp σ0 σ2 := mt_kp_t (mt_kp_fr (by omega) (by omega) p1) (mt_kp_fr (by omega) (by omega) p2)
        have k := k1 q q2 (by omega) (by omega) σ2 (IC_kp kp i) (mt_kp_m kp)
        rw [if_neg (by omega), if_neg (by omega), if_neg (by omega)] at k
        refine s_isAlike h2 h5 (mt_wv_fr p2 (by omega) w1) w2 (fun _ _ => ⟨fun c => ?_, fun c => ?_⟩)
        · rw [c] at k; exact k
        · rw [(al _ _).resolve_left c] at k; exact k
    · unfold f_X11_both_u16; exact k0 (fun z => q2 z.2.1)
  · unfold f_X11_both_u16; exact k0 (fun z => q z.1)
theorem c_cost {Q : Int → ml_St → Prop} {h told ts cap w n : Int} {tb cl pr sz : Int → Int} {T : Int → Int → Int} {σ0 : ml_St} (i : IC h told ts cap tb cl pr sz T σ0) (k0 : ¬ ((0 ≤ w ∧ w < told) ∧ 1 ≤ n ∧ n ≤ 1000) → Q 0 σ0) (k1 : 0 ≤ w → w < told → 1 ≤ n → n ≤ 1000 → ∀ σ, IC h told ts cap tb cl (mt_st pr w n) sz T σ → (∀ j, 215 ≤ j → σ j = σ0 j) → Q 1 σ) : f_X11_cost σ0 w n Q := by
  obtain ⟨a, b, c, d, e, r, s⟩ := i
  have t16 := a.2.2.2.2.2
  unfold f_X11_cost f_X11_cost_u0
  unfold f_X11_cost_u20
  refine s_isTold a.2.1 (fun w0 w1 _ => ⟨fun c => absurd c (by omega), fun _ => ⟨fun z => k0 (by omega), fun z => ⟨fun z2 => ⟨w0, by omega, fun σ6 s6 => ?_⟩, fun z2 => k0 (by omega)⟩⟩⟩) (fun q _ => ⟨fun _ => k0 (fun z => q z.1), fun c => absurd rfl c⟩)
  have f : ∀ j, j ≠ 119 + 6 * w → σ6 j = σ0 j := fun j hj => by rw [s6, ml_up_k hj]
  have fb : ∀ v b, b ≠ 3 → σ6 (119 + 6 * v) b = σ0 (119 + 6 * v) b := fun v b hb => by rw [s6, ml_up_i hb]
  refine k1 w0 w1 (by omega) z2 σ6 ⟨ic_A_k (f 1 (by omega)) a, ic_B_k (f 2 (by omega)) (f 3 (by omega)) b, ic_C_k (f 4 (by omega)) (f 5 (by omega)) c, fun v v0 v1 => ?_, fun v v0 v1 => ⟨ic_T_k (fb v 1 (by omega)) (fb v 2 (by omega)) (f _ (by omega)) (e v v0 v1).1, mt_wv_eq (f _ (by omega)) (f _ (by omega)) (f _ (by omega)) (e v v0 v1).2⟩, ic_R_k (fun v v0 v1 => ⟨fb v 6 (by omega), fb v 7 (by omega), f _ (by omega)⟩) r, ic_S_k (fun j h1 h2 => f j (by omega)) s⟩ (fun j hj => f j (by omega))
  unfold mt_st
  by_cases q : v = w
  · rw [if_pos q, q, s6, ml_up_same]; omega
  · rw [if_neg q, f _ (by omega)]; exact d v v0 v1
/-! the class: check, count; the POWERS (that they end) -/
theorem c_check {Q : Int → ml_St → Prop} {h told ts cap w : Int} {tb cl pr sz : Int → Int} {T : Int → Int → Int} {σ0 : ml_St} (i : IC h told ts cap tb cl pr sz T σ0) (k0 : ¬ (mt_md told (mt_mk h T sz) w ∧ 2 * h ≤ ts) → Q (-2) σ0) (k1 : mt_md told (mt_mk h T sz) w → 2 * h ≤ ts → ∀ x, (x = -1 ∧ (∀ e, 0 ≤ e → e < 2 * h → mt_ub tb e = mt_mk h T sz w e)) ∨ (0 ≤ x ∧ x < 2 * h ∧ mt_ub tb x ≠ mt_mk h T sz w x ∧ (∀ e, 0 ≤ e → e < x → mt_ub tb e = mt_mk h T sz w e)) → ∀ σ, IC h told 0 cap tb cl pr sz T σ → (∀ j, 215 ≤ j → σ j = σ0 j) → Q x σ) : f_X11_check σ0 w Q := by
  have a := i.1
  have b := i.2.1
  have h2 := a.2.2.1
  have h5 := a.2.2.2.1
  unfold f_X11_check f_X11_check_u0
  refine c_isMade i (fun q _ => ⟨fun c => absurd c (by omega), fun _ => ?_⟩) (fun q _ => ⟨fun _ => ?_, fun c => absurd rfl c⟩)
  · rw [b.1, a.1]
    refine fun _ _ => ⟨mt_i (by omega) (by omega), fun c => ⟨(2 * h).toNat + 2, ?_⟩, fun c => ?_⟩
    · obtain ⟨g1, g2, g3, g4⟩ := IC_w i q.1 q.2.1
      have w16 : w < 16 := by have := q.2.1; have := a.2.2.2.2.2; omega
      have KE : ∀ x, (x = -1 ∧ (∀ e, 0 ≤ e → e < 2 * h → mt_ub tb e = mt_mk h T sz w e)) ∨ (0 ≤ x ∧ x < 2 * h ∧ mt_ub tb x ≠ mt_mk h T sz w x ∧ (∀ e, 0 ≤ e → e < x → mt_ub tb e = mt_mk h T sz w e)) → f_X11_check_u80 Q σ0 x := by
        intro x hx
        unfold f_X11_check_u80
        intro σ1 s1
        exact k1 q c x hx σ1 (IC_B0 (fun j h1 _ => by rw [s1, ml_up_k h1]) (by rw [s1, ml_up_same]) i) (fun j hj => by rw [s1, ml_up_k (by omega)])
      have L : ∀ (N : Nat) (n x2 : Int), 0 ≤ n → n ≤ 2 * h → 2 * h - n + 1 < N → (∀ e, 0 ≤ e → e < n → e ≠ x2 → mt_ub tb e = mt_mk h T sz w e) → (x2 = -1 ∨ (x2 = n - 1 ∧ 0 ≤ x2 ∧ mt_ub tb x2 ≠ mt_mk h T sz w x2)) → f_X11_check_u31 Q (f_X11_check_u80 Q) N σ0 w x2 n := by
        intro N
        induction N with
        | zero => intro n x2 n0 n1 hN; omega
        | succ N ih =>
          intro n x2 n0 n1 hN he hx
          have fin : f_X11_check_u80 Q σ0 x2 ∨ x2 = -1 := by
            rcases hx with hx | ⟨y1, y2, y3⟩
            · exact Or.inr hx
            · exact Or.inl (KE x2 (Or.inr ⟨y2, by omega, y3, fun e e0 e1 => he e e0 (by omega) (by omega)⟩))
          unfold f_X11_check_u31
          rw [a.1]
          refine fun _ => ⟨mt_i (by omega) (by omega), fun z => ?_, fun z => ⟨fun z2 => fin.resolve_right z2, fun z2 => ⟨n0, by omega, fun _ => ⟨q.1, w16, n0, by omega, ?_⟩⟩⟩⟩
          · rcases fin with f | f
            · exact f
            · exact KE x2 (Or.inl ⟨f, fun e e0 e1 => he e e0 (by omega) (by omega)⟩)
          · rw [show 119 + 6 * w + 2 + 1 = 121 + 6 * w + 1 by omega, (g2.1 n n0 (by omega)).1, ic_B_u b n0 (by omega)]
            unfold f_X11_check_u74
            refine fun _ => ⟨fun y => ⟨mt_i (by omega) (by omega), fun y1 e1 => ?_⟩, fun y => ⟨mt_i (by omega) (by omega), fun y1 e1 => ?_⟩⟩
            · subst e1
              refine ih (n + 1) x2 (by omega) (by omega) (by omega) (fun e e0 e1 e2 => ?_) (Or.inl z2)
              by_cases v : e = n
              · rw [v]; exact y
              · exact he e e0 (by omega) e2
            · subst e1
              exact ih (n + 1) n (by omega) (by omega) (by omega) (fun e e0 e1 e2 => he e e0 (by omega) (by omega)) (Or.inr ⟨by omega, n0, y⟩)
      exact L _ 0 (-1) (by omega) (by omega) (by omega) (fun e e0 e1 => absurd e1 (by omega)) (Or.inl rfl)
    · unfold f_X11_check_u24; exact k0 (fun z => c z.2)
  · unfold f_X11_check_u24; exact k0 (fun z => q z.1)
def an_count (h told ts cap : Int) (pr sz : Int → Int) (x : Int) : Int := if x = 0 then h else if x = 1 then told else if x = 2 then ts else if x = 3 then cap else if 10 ≤ x ∧ x - 10 < told then sz (x - 10) else if 30 ≤ x ∧ x - 30 < told then pr (x - 30) else -1
theorem c_count {Q : Int → ml_St → Prop} {h told ts cap x : Int} {tb cl pr sz : Int → Int} {T : Int → Int → Int} {σ : ml_St} (xI : I32 x) (i : IC h told ts cap tb cl pr sz T σ) (k : Q (an_count h told ts cap pr sz x) σ) : f_X11_count σ x Q := by
  obtain ⟨a, b, c, d, e, r, s⟩ := i
  have t16 := a.2.2.2.2.2
  unfold an_count at k
  unfold f_X11_count f_X11_count_u0
  refine ⟨fun z _ => ?_, fun z _ => ?_, fun z _ => ?_, fun z => ?_, fun z => ?_⟩
  · rw [if_pos z] at k; rw [a.1]; exact k
  · rw [if_neg (by omega), if_pos z] at k; rw [a.2.1]; exact k
  · rw [if_neg (by omega), if_neg (by omega), if_pos z] at k; rw [b.1]; exact k
  · rw [if_neg (by omega), if_neg (by omega), if_neg (by omega), if_pos z] at k
    rw [c.1]
    unfold f_X11_count_u65
    refine fun _ => ⟨fun y => ?_, fun y => ?_⟩
    · rw [y] at k; exact k
    · rw [c.2.1.resolve_left y] at k; exact k
  · rw [if_neg (by omega), if_neg (by omega), if_neg (by omega), if_neg (by omega)] at k
    have xl := xI.1
    have P : ¬ (10 ≤ x ∧ x - 10 < told) → f_X11_count_u96 Q σ x := by
      intro n10
      rw [if_neg n10] at k
      unfold f_X11_count_u96
      unfold f_X11_count_u128 f_X11_count_u129
      refine ⟨fun y => ?_, fun y => ⟨⟨by omega, by have := xI.2; omega⟩, s_isTold a.2.1 (fun w0 w1 _ => ⟨fun v => absurd v (by omega), fun _ => ⟨⟨by omega, by have := xI.2; omega⟩, by omega, by omega, fun _ => ?_⟩⟩) (fun q _ => ⟨fun _ => ?_, fun v => absurd rfl v⟩)⟩⟩
      · rw [if_neg (by omega)] at k; exact k
      · rw [if_pos ⟨by omega, w1⟩] at k; rw [(d (x - 30) (by omega) (by omega)).1]; exact k
      · rw [if_neg (fun y => q ⟨by omega, y.2⟩)] at k; exact k
    refine ⟨fun y => P (by omega), fun y => ⟨⟨by omega, by have := xI.2; omega⟩, s_isTold a.2.1 (fun w0 w1 _ => ⟨fun v => absurd v (by omega), fun _ => ⟨⟨by omega, by have := xI.2; omega⟩, by omega, by omega, fun _ => ?_⟩⟩) (fun q _ => ⟨fun _ => P (fun y => q ⟨by omega, y.2⟩), fun v => absurd rfl v⟩)⟩⟩
    rw [if_pos ⟨by omega, w1⟩] at k
    rw [(e (x - 10) (by omega) w1).1.2.1]; exact k
/-- INDEX and PERIOD in their bounds -/
def mt_pw (σ : ml_St) : Prop := 1 ≤ σ 46 4 ∧ 1 ≤ σ 46 5 ∧ σ 46 4 + σ 46 5 ≤ 64
def mt_f46 (σ σ' : ml_St) : Prop := ∀ j, (j < 46 ∨ 54 < j) → σ' j = σ j
theorem mt_f46_kp {σ σ' : ml_St} (f : mt_f46 σ σ') : mt_kp σ σ' := fun j hj => f j (by omega)
theorem mt_f46_t {σ σ1 σ2 : ml_St} (a : mt_f46 σ σ1) (b : mt_f46 σ1 σ2) : mt_f46 σ σ2 := fun j hj => by rw [b j hj, a j hj]
theorem mt_f46_fr {k : Int} {σ σ' : ml_St} (h1 : 46 ≤ k) (h2 : k ≤ 52) (f : mt_fr k σ σ') : mt_f46 σ σ' := fun j hj => f j (by omega) (by omega) (by omega)
theorem mt_f46_up {k i v : Int} {σ : ml_St} (h1 : 46 ≤ k) (h2 : k ≤ 54) : mt_f46 σ (ml_up σ k i v) := fun j hj => ml_up_k (by omega)
theorem s_study {Q : ml_St → Prop} {p h : Int} {σ0 : ml_St} {v cl : Int → Int} (h2 : 2 ≤ h) (h5 : h ≤ 5) (pd : p + 3 ≤ 46 ∨ 55 ≤ p) (p5 : 5 < p) (hv : mt_M h v) (wv : mt_wv h σ0 p v) (hc : mt_M h cl) (ec : mt_eq h (σ0 5) cl) (k : ∀ σ, mt_f46 σ0 σ → mt_pw σ → Q σ) : f_X6_study σ0 p h Q := by
  have KE : ∀ σ, mt_f46 σ0 σ → mt_pw σ → f_X6_study_u168 Q p σ := by
    intro σ f ⟨q1, q2, q3⟩
    unfold f_X6_study_u168
    refine fun _ _ => ⟨mt_i (by omega) (by omega), by omega, by omega, fun _ _ => ⟨by omega, by omega, fun _ σ8 s8 => ?_⟩⟩
    refine k σ8 (mt_f46_t f (by rw [s8]; exact mt_f46_up (by omega) (by omega))) ?_
    unfold mt_pw
    rw [s8, ml_up_i (by omega), ml_up_i (by omega)]
    exact ⟨q1, q2, q3⟩
  have L : ∀ (N : Nat) (n x4 : Int) (σ : ml_St) (u : Int → Int), 1 ≤ n → n ≤ 65 → 65 - n < N → mt_f46 σ0 σ → mt_M h u → mt_wv h σ 49 u → mt_pw σ → f_X6_study_u24 Q (f_X6_study_u168 Q p) p N σ h x4 n := by
    intro N
    induction N with
    | zero => intro n x4 σ u n0 n1 hN; omega
    | succ N ih =>
      intro n x4 σ u n0 n1 hN f hu wu hp
      unfold f_X6_study_u24
      refine ⟨fun _ => KE σ f hp, fun c => ⟨fun _ => KE σ f hp, fun c2 => ?_⟩⟩
      subst c2
      have U66 : ∀ (σ : ml_St) (u : Int → Int), mt_f46 σ0 σ → mt_M h u → mt_wv h σ 49 u → mt_pw σ → f_X6_study_u66 Q (f_X6_study_u24 Q (f_X6_study_u168 Q p) p N) p σ h 0 n := by
        intro σ u f hu wu hp
        have num := mt_num_lt h2 h5 hu
        unfold f_X6_study_u66
        refine s_number h2 h5 hu (mt_eq_wa wu).1 (fun _ => ⟨by omega, by omega, fun σ2 s2 _ => ?_⟩)
        have k2 : ∀ j, j ≠ 47 → σ2 j = σ j := fun j hj => by rw [s2, ml_up_k hj]
        refine s_loopsBy (α := u) (β := cl) h2 h5 hu hc (fun e e0 e1 => by rw [k2 _ (by omega)]; exact (wu.1 e e0 e1).1) (fun e e0 e1 => by rw [k2 _ (by omega), f 5 (by omega)]; exact ec e e0 e1) ?_
        refine fun _ => ⟨by omega, by omega, fun σ6 s6 => ⟨n.toNat + 1, ?_⟩⟩
        have k6 : ∀ j, j ≠ 47 → j ≠ 48 → σ6 j = σ j := fun j h1 h3 => by rw [s6, ml_up_k h3, k2 j h1]
        have f6 : mt_f46 σ0 σ6 := fun j hj => by rw [k6 j (by omega) (by omega), f j hj]
        have w6 : mt_wv h σ6 49 u := mt_wv_eq (k6 _ (by omega) (by omega)) (k6 _ (by omega) (by omega)) (k6 _ (by omega) (by omega)) wu
        have p6 : mt_pw σ6 := by unfold mt_pw; rw [k6 46 (by omega) (by omega)]; exact hp
        have I : ∀ (M : Nat) (m x4 : Int) (σ : ml_St), 1 ≤ m → m ≤ n → n - m < M → mt_f46 σ0 σ → mt_wv h σ 49 u → mt_pw σ → f_X6_study_u109 Q (f_X6_study_u162 Q (f_X6_study_u24 Q (f_X6_study_u168 Q p) p N) p) p M σ h x4 n m := by
          intro M
          induction M with
          | zero => intro m x4 σ m0 m1 hM; omega
          | succ M ihM =>
            intro m x4 σ m0 m1 hM f wu hp
            have out : f_X6_study_u162 Q (f_X6_study_u24 Q (f_X6_study_u168 Q p) p N) p σ h x4 n := by
              unfold f_X6_study_u162
              refine ⟨mt_i (by omega) (by omega), fun y1 e1 => ?_⟩
              subst e1
              exact ih (n + 1) x4 σ u (by omega) (by omega) (by omega) f hu wu hp
            unfold f_X6_study_u109
            refine ⟨fun _ => out, fun c3 => ⟨fun _ => out, fun c4 => ⟨by omega, by omega, fun _ => ⟨by omega, by omega, fun _ => ⟨fun _ => ?_, fun _ σ7 s7 => ⟨mt_i (by omega) (by omega), fun σ8 s8 => ?_⟩⟩⟩⟩⟩⟩
            · unfold f_X6_study_u156
              refine ⟨mt_i (by omega) (by omega), fun y1 e1 => ?_⟩
              subst e1
              exact ihM (m + 1) x4 σ (by omega) (by omega) (by omega) f wu hp
            · unfold f_X6_study_u156
              refine ⟨mt_i (by omega) (by omega), fun y1 e1 => ?_⟩
              subst e1
              have k8 : ∀ j, j ≠ 46 → σ8 j = σ j := fun j hj => by rw [s8, ml_up_k hj, s7, ml_up_k hj]
              refine ihM (m + 1) 1 σ8 (by omega) (by omega) (by omega) (fun j hj => by rw [k8 j (by omega), f j hj]) (mt_wv_eq (k8 _ (by omega)) (k8 _ (by omega)) (k8 _ (by omega)) wu) ?_
              unfold mt_pw
              rw [s8, ml_up_i (show (4:Int) ≠ 5 by omega), ml_up_same, s7, ml_up_same]
              omega
        exact I _ 1 0 σ6 (by omega) (by omega) (by omega) f6 w6 p6
      refine ⟨fun c3 => U66 σ u f hu wu hp, fun c3 => ?_⟩
      have wv' : mt_wv h σ p v := mt_wv_eq (f _ (by omega)) (f _ (by omega)) (f _ (by omega)) wv
      refine s_beBoth h2 h5 (by omega) (by omega) hu hv wu wv' (fun σ4 f4 w4 => s_beLike h5 (by omega) w4 (fun σ5 f5 w5 => ?_))
      have ff : mt_f46 σ σ5 := mt_f46_t (mt_f46_fr (by omega) (by omega) f4) (mt_f46_fr (by omega) (by omega) f5)
      refine U66 σ5 _ (mt_f46_t f ff) (mt_both_M h5 hu hv) w5 ?_
      unfold mt_pw
      rw [f5 46 (by omega) (by omega) (by omega), f4 46 (by omega) (by omega) (by omega)]
      exact hp
  unfold f_X6_study f_X6_study_u0
  intro σ1 s1 σ2 s2
  have f2 : mt_f46 σ0 σ2 := by rw [s2, s1]; exact mt_f46_t (mt_f46_up (by omega) (by omega)) (mt_f46_up (by omega) (by omega))
  refine s_beLike h5 (by omega) (mt_wv_eq (f2 _ (by omega)) (f2 _ (by omega)) (f2 _ (by omega)) wv) (fun σ3 f3 w3 => ⟨66, ?_⟩)
  refine L 66 1 0 σ3 v (by omega) (by omega) (by omega) (mt_f46_t f2 (mt_f46_fr (by omega) (by omega) f3)) hv w3 ?_
  unfold mt_pw
  rw [f3 46 (by omega) (by omega) (by omega), s2, ml_up_i (show (4:Int) ≠ 5 by omega), ml_up_same, s1, ml_up_same]
  omega
theorem mb_l2i {x : Int} (h0 : 0 ≤ x) (h1 : x < 65) : b_l2i x = x := by
  have k : ∀ n : Nat, n < 65 → b_l2i (n : Int) = n := by decide +kernel
  have := k x.toNat (by omega)
  rw [show ((x.toNat : Nat) : Int) = x by omega] at this
  exact this
theorem s_loopsOf {Q : Int → ml_St → Prop} {x : Int} {σ : ml_St} (p : mt_pw σ) (x0 : 0 ≤ x) (xI : I64 x) (k : ∀ r, I64 r → Q r σ) : f_X6_loopsOf σ x Q := by
  obtain ⟨p1, p2, p3⟩ := p
  unfold f_X6_loopsOf f_X6_loopsOf_u0
  refine fun _ => ⟨fun c _ _ => ⟨by omega, fun y7 _ _ _ _ => ⟨by omega, ?_⟩⟩, fun c => ?_⟩
  · have e1 : w64 (x - σ 46 4) = x - σ 46 4 := w64_id ⟨by have := xI.1; omega, by have := xI.2; omega⟩
    have tm : Int.tmod (x - σ 46 4) (σ 46 5) = (x - σ 46 4) % (σ 46 5) := Int.tmod_eq_emod_of_nonneg (by omega)
    have m0 := Int.emod_nonneg (x - σ 46 4) (show σ 46 5 ≠ 0 by omega)
    have m1 := Int.emod_lt_of_pos (x - σ 46 4) (show 0 < σ 46 5 by omega)
    rw [e1, tm, mb_l2i m0 (by omega)]
    refine ⟨mt_i (by omega) (by omega), by omega, by omega, fun _ y15 _ _ => ⟨fun _ => ?_, fun c2 _ => ⟨by omega, fun _ => ?_, fun _ => k _ ⟨by omega, by omega⟩⟩⟩⟩
    · unfold f_X6_loopsOf_u87; exact fun _ => k _ (w64_r _)
    · unfold f_X6_loopsOf_u87; exact fun _ => k _ (w64_r _)
  · rw [mb_l2i x0 (by omega)]
    exact ⟨x0, by omega, fun hI => k _ hI⟩
theorem s_growth {Q : Int → ml_St → Prop} {x y : Int} {σ : ml_St} (p : mt_pw σ) (x0 : 0 ≤ x) (x1 : x ≤ 1000) (y0 : 0 ≤ y) (y1 : y ≤ 1000) (k : ∀ r, I64 r → Q r σ) : f_X6_growth σ x y Q := by
  unfold f_X6_growth f_X6_growth_u0
  exact ⟨mt_I (by omega) (by omega), s_loopsOf p (by omega) ⟨by omega, by omega⟩ (fun _ _ _ => s_loopsOf p x0 ⟨by omega, by omega⟩ (fun _ _ _ => k _ (w64_r _)))⟩
theorem s_isEven {Q : Int → ml_St → Prop} {x : Int} {σ : ml_St} (p : mt_pw σ) (x0 : 0 ≤ x) (x1 : x ≤ 100) (k : ∀ r, (r = 0 ∨ r = 1) → Q r σ) : f_X6_isEven σ x Q := by
  have p' := p
  obtain ⟨p1, p2, p3⟩ := p
  have L : ∀ (N : Nat) (x2 n : Int), (x2 = 0 ∨ x2 = 1) → 0 ≤ n → n ≤ 100 → 100 - n < N → f_X6_isEven_u9 Q (f_X6_isEven_u57 Q) N σ x x2 n := by
    intro N
    induction N with
    | zero => intro x2 n _ n0 n1 hN; omega
    | succ N ih =>
      intro x2 n hx n0 n1 hN
      unfold f_X6_isEven_u9
      have nx : ∀ s, (s = 0 ∨ s = 1) → n < σ 46 4 + σ 46 5 → f_X6_isEven_u50 Q (f_X6_isEven_u9 Q (f_X6_isEven_u57 Q) N) σ x n s := by
        intro s hs hn
        unfold f_X6_isEven_u50
        refine ⟨mt_i (by omega) (by omega), fun y1 e1 => ?_⟩
        subst e1
        exact ih s (n + 1) hs (by omega) (by omega) (by omega)
      refine fun _ _ => ⟨mt_i (by omega) (by omega), fun _ => ?_, fun c => ⟨fun _ => ?_, fun _ => ?_⟩⟩
      · unfold f_X6_isEven_u57; exact k x2 hx
      · unfold f_X6_isEven_u49; exact nx 0 (Or.inl rfl) (by omega)
      · refine s_growth p' n0 (by omega) x0 (by omega) (fun _ _ _ _ => s_growth p' (by omega) (by omega) x0 (by omega) (fun _ _ _ => ⟨fun _ => ?_, fun _ => nx 1 (Or.inr rfl) (by omega)⟩))
        unfold f_X6_isEven_u49; exact nx 0 (Or.inl rfl) (by omega)
  unfold f_X6_isEven f_X6_isEven_u0
  refine fun _ => ⟨mt_i (by omega) (by omega), fun y3 e3 => ⟨200, ?_⟩⟩
  subst e3
  exact L 200 1 _ (Or.inr rfl) (by omega) (by omega) (by omega)
/-- the rule found -/
def mt_rl2 (σ : ml_St) : Prop := mt_pw σ ∧ 1 ≤ σ 46 7 ∧ σ 46 7 ≤ 64 ∧ 1 ≤ σ 46 9 ∧ σ 46 9 ≤ 64
theorem s_findRule {Q : ml_St → Prop} {σ0 : ml_St} (p : mt_pw σ0) (k : ∀ σ, mt_f46 σ0 σ → mt_rl2 σ → Q σ) : f_X6_findRule σ0 Q := by
  have S : ∀ (N : Nat) (σ : ml_St), mt_f46 σ0 σ → mt_rl2 σ → σ 46 9 < N → f_X6_findRule_u64 Q (f_X6_findRule_u107 Q) N σ := by
    intro N
    induction N with
    | zero => intro σ _ hr hN; have := hr.2.2.2.1; omega
    | succ N ih =>
      intro σ f hr hN
      have hr' := hr
      obtain ⟨q, q1, q2, q3, q4⟩ := hr
      unfold f_X6_findRule_u64
      unfold f_X6_findRule_u107
      refine fun _ => ⟨fun _ => k σ f hr', fun c _ => ⟨mt_i (by omega) (by omega), fun _ => s_growth q (by omega) (by omega) (by omega) (by omega) (fun _ _ _ _ => ⟨fun _ => k σ f hr', fun _ _ => ⟨mt_i (by omega) (by omega), fun σ11 s11 => ?_⟩⟩)⟩⟩
      refine ih σ11 (mt_f46_t f (by rw [s11]; exact mt_f46_up (by omega) (by omega))) ?_ (by rw [s11, ml_up_same]; omega)
      unfold mt_rl2 mt_pw
      rw [s11, ml_up_i (show (4:Int) ≠ 9 by omega), ml_up_i (show (5:Int) ≠ 9 by omega), ml_up_i (show (7:Int) ≠ 9 by omega), ml_up_same]
      exact ⟨q, q1, q2, by omega, by omega⟩
  have U40 : ∀ σ, mt_f46 σ0 σ → mt_pw σ → 1 ≤ σ 46 7 → σ 46 7 ≤ 64 → f_X6_findRule_u40 Q σ := by
    intro σ f q q1 q2
    have q' := q
    obtain ⟨p1, p2, p3⟩ := q
    unfold f_X6_findRule_u40
    refine fun _ _ => s_growth q' (by omega) (by omega) (by omega) (by omega) (fun _ _ _ σ4 s4 _ σ6 s6 => ⟨100, ?_⟩)
    have e4 : σ4 46 4 = σ 46 4 := by rw [s4, ml_up_i (by omega)]
    rw [e4] at s6
    have f6 : mt_f46 σ σ6 := by rw [s6, s4]; exact mt_f46_t (mt_f46_up (by omega) (by omega)) (mt_f46_up (by omega) (by omega))
    have r6 : mt_rl2 σ6 := by
      unfold mt_rl2 mt_pw
      rw [s6, ml_up_i (show (4:Int) ≠ 9 by omega), ml_up_i (show (5:Int) ≠ 9 by omega), ml_up_i (show (7:Int) ≠ 9 by omega), ml_up_same, s4, ml_up_i (show (4:Int) ≠ 8 by omega), ml_up_i (show (5:Int) ≠ 8 by omega), ml_up_i (show (7:Int) ≠ 8 by omega)]
      exact ⟨q', q1, q2, by omega, by omega⟩
    exact S 100 σ6 (mt_f46_t f f6) r6 (by have := r6.2.2.2.2; omega)
  have L : ∀ (N : Nat) (σ : ml_St), mt_f46 σ0 σ → mt_pw σ → 1 ≤ σ 46 7 → σ 46 7 ≤ 64 → 65 - σ 46 7 < N → f_X6_findRule_u5 Q (f_X6_findRule_u40 Q) N σ := by
    intro N
    induction N with
    | zero => intro σ _ _ _ q hN; omega
    | succ N ih =>
      intro σ f q q1 q2 hN
      have q' := q
      obtain ⟨p1, p2, p3⟩ := q
      unfold f_X6_findRule_u5
      refine fun _ _ => ⟨fun _ => U40 σ f q' q1 q2, fun c _ => s_isEven q' (by omega) (by omega) (fun r hr _ => ⟨fun _ => U40 σ f q' q1 q2, fun _ _ => ⟨mt_i (by omega) (by omega), fun σ9 s9 => ?_⟩⟩)⟩
      refine ih σ9 (mt_f46_t f (by rw [s9]; exact mt_f46_up (by omega) (by omega))) ?_ (by rw [s9, ml_up_same]; omega) (by rw [s9, ml_up_same]; omega) (by rw [s9, ml_up_same]; omega)
      unfold mt_pw
      rw [s9, ml_up_i (show (4:Int) ≠ 7 by omega), ml_up_i (show (5:Int) ≠ 7 by omega)]
      exact q'
  unfold f_X6_findRule f_X6_findRule_u0
  intro σ1 s1
  have f1 : mt_f46 σ0 σ1 := by rw [s1]; exact mt_f46_up (by omega) (by omega)
  refine ⟨100, L 100 σ1 f1 ?_ (by rw [s1, ml_up_same]; omega) (by rw [s1, ml_up_same]; omega) (by rw [s1, ml_up_same]; omega)⟩
  unfold mt_pw
  rw [s1, ml_up_i (show (4:Int) ≠ 7 by omega), ml_up_i (show (5:Int) ≠ 7 by omega)]
  exact p
theorem s_firstFrom {Q : Int → ml_St → Prop} {x y : Int} {σ : ml_St} (p : mt_pw σ) (x0 : 0 ≤ x) (x1 : x ≤ 1000) (k : ∀ r, Q r σ) : f_X6_firstFrom σ x y Q := by
  unfold f_X6_firstFrom f_X6_firstFrom_u0
  unfold f_X6_firstFrom_u48
  exact s_loopsOf p x0 ⟨by omega, by omega⟩ (fun _ _ _ _ _ => ⟨fun _ => ⟨fun _ => k _, fun _ _ => ⟨fun _ => k _, fun c _ => ⟨by omega, fun _ _ => ⟨by omega, fun _ => k _⟩, fun _ => k _⟩⟩⟩, fun _ => k _⟩)
theorem s_howManyFrom {Q : Int → ml_St → Prop} {x y f t : Int} {σ : ml_St} (p : mt_rl2 σ) (x0 : 0 ≤ x) (x1 : x ≤ 1000) (k : ∀ r, Q r σ) : f_X6_howManyFrom σ x y f t Q := by
  have q := p.2.1
  unfold f_X6_howManyFrom f_X6_howManyFrom_u0
  unfold f_X6_howManyFrom_u25 f_X6_howManyFrom_u49 f_X6_howManyFrom_u91 f_X6_howManyFrom_u118
  exact s_firstFrom p.1 x0 x1 (fun _ _ => ⟨fun _ => k _, fun _ => ⟨fun _ _ => ⟨fun _ => ⟨fun _ _ _ => ⟨by omega, fun _ => ⟨fun _ _ => ⟨by omega, k _⟩, fun _ => k _⟩⟩, fun _ => ⟨fun _ _ => ⟨by omega, k _⟩, fun _ => k _⟩⟩, fun _ => ⟨fun _ => k _, fun _ => k _⟩⟩, fun _ => k _⟩⟩)
theorem s_howMany6 {Q : Int → ml_St → Prop} {x f t : Int} {σ : ml_St} (p : mt_rl2 σ) (k : ∀ r, Q r σ) : f_X6_howMany σ x f t Q := by
  have p' := p
  obtain ⟨q, q1, q2, q3, q4⟩ := p
  have L2 : ∀ (N : Nat) (s n : Int), 0 ≤ n → n ≤ 64 → 65 - n < N → f_X6_howMany_u59 Q (f_X6_howMany_u94 Q) N σ x f t s n := by
    intro N
    induction N with
    | zero => intro s n n0 n1 hN; omega
    | succ N ih =>
      intro s n n0 n1 hN
      unfold f_X6_howMany_u59
      unfold f_X6_howMany_u94
      refine fun _ => ⟨fun _ => k _, fun c _ => ⟨mt_i (by omega) (by omega), s_howManyFrom p' (by omega) (by omega) (fun r _ y7 _ => ⟨mt_i (by omega) (by omega), fun y8 e8 => ?_⟩)⟩⟩
      subst e8
      exact ih y7 (n + 1) (by omega) (by omega) (by omega)
  have L1 : ∀ (N : Nat) (s n : Int), 0 ≤ n → n ≤ 64 → 65 - n < N → f_X6_howMany_u6 Q (f_X6_howMany_u56 Q) N σ x f t s n := by
    intro N
    induction N with
    | zero => intro s n n0 n1 hN; omega
    | succ N ih =>
      intro s n n0 n1 hN
      unfold f_X6_howMany_u6
      have nx : ∀ s, n < σ 46 9 → f_X6_howMany_u50 Q (f_X6_howMany_u6 Q (f_X6_howMany_u56 Q) N) σ x f t s n := by
        intro s hn
        unfold f_X6_howMany_u50
        refine ⟨mt_i (by omega) (by omega), fun y e => ?_⟩
        subst e
        exact ih s (n + 1) (by omega) (by omega) (by omega)
      refine fun _ => ⟨fun _ => ⟨100, L2 100 s 0 (by omega) (by omega) (by omega)⟩, fun c => s_loopsOf q n0 ⟨by omega, by omega⟩ (fun _ _ _ => ⟨fun _ => nx _ (by omega), fun _ => ⟨fun _ => nx _ (by omega), fun _ => ⟨fun _ => nx _ (by omega), fun _ _ _ => nx _ (by omega)⟩⟩⟩)⟩
  unfold f_X6_howMany f_X6_howMany_u0
  exact ⟨100, L1 100 0 1 (by omega) (by omega) (by omega)⟩
theorem s_firstWith {Q : Int → ml_St → Prop} {x : Int} {σ : ml_St} (p : mt_rl2 σ) (k : ∀ r, Q r σ) : f_X6_firstWith σ x Q := by
  have p' := p
  obtain ⟨q, q1, q2, q3, q4⟩ := p
  have L2 : ∀ (N : Nat) (s n : Int), 0 ≤ n → n ≤ 64 → 65 - n < N → f_X6_firstWith_u37 Q (f_X6_firstWith_u102 Q) N σ x s n := by
    intro N
    induction N with
    | zero => intro s n n0 n1 hN; omega
    | succ N ih =>
      intro s n n0 n1 hN
      have nx : ∀ s, n < σ 46 7 → f_X6_firstWith_u96 Q (f_X6_firstWith_u37 Q (f_X6_firstWith_u102 Q) N) σ x s n := by
        intro s hn
        unfold f_X6_firstWith_u96
        refine ⟨mt_i (by omega) (by omega), fun y e => ?_⟩
        subst e
        exact ih s (n + 1) (by omega) (by omega) (by omega)
      unfold f_X6_firstWith_u37
      unfold f_X6_firstWith_u102 f_X6_firstWith_u93
      refine fun _ => ⟨fun _ => k _, fun c _ => ⟨mt_i (by omega) (by omega), s_firstFrom q (by omega) (by omega) (fun r _ => ⟨fun _ => nx _ (by omega), fun _ => ⟨fun _ => nx _ (by omega), fun _ => ⟨fun _ => nx _ (by omega), fun _ => ⟨fun _ => nx _ (by omega), fun _ => nx _ (by omega)⟩⟩⟩⟩)⟩⟩
  have L1 : ∀ (N : Nat) (n : Int), 0 ≤ n → n ≤ 64 → 65 - n < N → f_X6_firstWith_u2 Q (f_X6_firstWith_u21 Q) (f_X6_firstWith_u30 Q) N σ x n := by
    intro N
    induction N with
    | zero => intro n n0 n1 hN; omega
    | succ N ih =>
      intro n n0 n1 hN
      unfold f_X6_firstWith_u2
      unfold f_X6_firstWith_u21 f_X6_firstWith_u30
      refine fun _ => ⟨fun _ => ⟨100, L2 100 (-1) 0 (by omega) (by omega) (by omega)⟩, fun c => s_loopsOf q n0 ⟨by omega, by omega⟩ (fun _ _ _ => ⟨fun _ => ⟨mt_i (by omega) (by omega), fun y e => ?_⟩, fun _ => k _⟩)⟩
      subst e
      exact ih (n + 1) (by omega) (by omega) (by omega)
  unfold f_X6_firstWith f_X6_firstWith_u0
  exact ⟨100, L1 100 1 (by omega) (by omega) (by omega)⟩
theorem s_alwaysOne {Q : Int → ml_St → Prop} {σ : ml_St} (p : mt_pw σ) (k : ∀ r, (r = 0 ∨ r = 1) → Q r σ) : f_X6_alwaysLeaveOne σ Q := by
  obtain ⟨p1, p2, p3⟩ := p
  have L : ∀ (N : Nat) (s n : Int), (s = 0 ∨ s = 1) → 1 ≤ n → n ≤ 65 → 66 - n < N → f_X6_alwaysLeaveOne_u4 Q (f_X6_alwaysLeaveOne_u44 Q) N σ s n := by
    intro N
    induction N with
    | zero => intro s n _ n0 n1 hN; omega
    | succ N ih =>
      intro s n hs n0 n1 hN
      have nx : ∀ s, (s = 0 ∨ s = 1) → n ≤ σ 46 4 + σ 46 5 → f_X6_alwaysLeaveOne_u37 Q (f_X6_alwaysLeaveOne_u4 Q (f_X6_alwaysLeaveOne_u44 Q) N) σ n s := by
        intro s hs hn
        unfold f_X6_alwaysLeaveOne_u37
        refine ⟨mt_i (by omega) (by omega), fun y e => ?_⟩
        subst e
        exact ih s (n + 1) hs (by omega) (by omega) (by omega)
      unfold f_X6_alwaysLeaveOne_u4
      unfold f_X6_alwaysLeaveOne_u44 f_X6_alwaysLeaveOne_u36
      exact fun _ _ => ⟨mt_i (by omega) (by omega), fun _ => k s hs, fun c => ⟨fun _ => nx 0 (Or.inl rfl) (by omega), fun _ => ⟨by omega, by omega, fun _ => ⟨fun _ => nx 0 (Or.inl rfl) (by omega), fun _ => nx 1 (Or.inr rfl) (by omega)⟩⟩⟩⟩
  unfold f_X6_alwaysLeaveOne f_X6_alwaysLeaveOne_u0
  exact ⟨100, L 100 1 1 (Or.inr rfl) (by omega) (by omega) (by omega)⟩
/-! the class: mend, back (that they end) -/
theorem mt_pl_all {t : Int → Int} : ∀ n : Nat, mt_pl t n ≠ 0 → ∀ k : Nat, k < n → t k = 120 ∨ t k = 117 ∨ (48 ≤ t k ∧ t k ≤ 57) := by
  intro n
  induction n with
  | zero => intro _ k hk; omega
  | succ n ih =>
    intro h k hk
    unfold mt_pl at h
    by_cases q : mt_pl t n = 0
    · rw [if_pos q] at h; exact absurd rfl h
    · rw [if_neg q] at h
      by_cases z : t n = 120 ∨ t n = 117 ∨ (48 ≤ t n ∧ t n ≤ 57)
      · by_cases y : k = n
        · rw [y]; exact z
        · exact ih q k (by omega)
      · rw [if_neg z] at h; exact absurd rfl h
/-- a plain TEXT is signs with their digits -/
theorem mt_pairs {t : Int → Int} {n h w : Int} (n0 : 0 ≤ n) (hp : ∀ j, 0 ≤ j → j < n → t j = 120 ∨ t j = 117 ∨ (48 ≤ t j ∧ t j ≤ 57)) : ∀ (F : Nat) (i d need : Int), 0 ≤ i → mt_gr t n h w F i d need = 0 → n - i < F → i ≤ n → ∀ k : Nat, i + 2 * k < n → (t (i + 2 * k) = 120 ∨ t (i + 2 * k) = 117) ∧ i + 2 * k + 1 < n ∧ 48 ≤ t (i + 2 * k + 1) ∧ t (i + 2 * k + 1) ≤ 57 ∧ t (i + 2 * k + 1) - 48 ≤ h - 2 := by
  intro F
  induction F with
  | zero => intro i d need _ _ hF hi; omega
  | succ F ih =>
    intro i d need i0 g hF hi k hk
    have hpi := hp i i0 (by omega)
    rcases mt_gr_c n0 i0 g with z | z | z | z | z
    · omega
    · omega
    · omega
    · obtain ⟨z1, z2, z3, z4, z5, z6, z7, z8⟩ := z
      have no : ¬ (i + 2 < n ∧ t (i + 2) = 42) := fun q => by have := hp (i + 2) (by omega) q.1; omega
      have et : mt_tn t n (i + 2) = i + 2 := by unfold mt_tn; rw [if_neg no]
      cases k with
      | zero =>
        rw [show i + 2 * ((0 : Nat) : Int) = i by omega]
        exact ⟨z2, z3, z4, z5, z6⟩
      | succ k =>
        rw [et] at z8
        have := ih (i + 2) d 0 (by omega) z8 (by omega) (by omega) k (by omega)
        rw [show i + 2 * ((k + 1 : Nat) : Int) = i + 2 + 2 * k by omega]
        exact this
    · omega
def mb_lo (n : Nat) : Bool := decide (0 ≤ b_and (n : Int) (-(n : Int)) - 1 ∧ b_and (n : Int) (-(n : Int)) - 1 < 1024 ∧ 2 ^ mb_sw (b_and (n : Int) (-(n : Int)) - 1).toNat ≤ n)
theorem mb_lo_1 : ∀ a, a < 4 → ∀ b, b < 256 → (256 * a + b = 0 ∨ mb_lo (256 * a + b) = true) := by decide +kernel
theorem mb_lo_e {n : Nat} (h0 : 0 < n) (h : n < 1024) : 0 ≤ b_and (n : Int) (-(n : Int)) - 1 ∧ b_and (n : Int) (-(n : Int)) - 1 < 1024 ∧ 2 ^ mb_sw (b_and (n : Int) (-(n : Int)) - 1).toNat ≤ n := by
  have := mb_lo_1 (n / 256) (by omega) (n % 256) (by omega)
  rw [show 256 * (n / 256) + n % 256 = n by omega] at this
  rcases this with q | q
  · omega
  · exact of_decide_eq_true q
def mt_f78 (σ σ' : ml_St) : Prop := ∀ j, (j < 46 ∨ (54 < j ∧ j < 78) ∨ 113 < j) → σ' j = σ j
theorem mt_f78_t {σ σ1 σ2 : ml_St} (a : mt_f78 σ σ1) (b : mt_f78 σ1 σ2) : mt_f78 σ σ2 := fun j hj => by rw [b j hj, a j hj]
theorem s_leavesOne {Q : Int → ml_St → Prop} {p h : Int} {σ0 : ml_St} {v cl : Int → Int} (h2 : 2 ≤ h) (h5 : h ≤ 5) (pd : 55 ≤ p) (hv : mt_M h v) (wv : mt_wv h σ0 p v) (hc : mt_M h cl) (ec : mt_eq h (σ0 5) cl) (k : ∀ r σ, (r = 0 ∨ r = 1) → mt_f46 σ0 σ → Q r σ) : f_X5_leavesOne σ0 p h Q := by
  unfold f_X5_leavesOne f_X5_leavesOne_u0
  refine fun _ => s_loopsBy h2 h5 hv hc (mt_eq_wa wv).1 ec (fun _ => ⟨fun _ => s_study h2 h5 (Or.inr pd) (by omega) hv wv hc ec (fun σ f p => s_alwaysOne p (fun r hr _ => k r σ hr f)), fun _ => k 0 σ0 (Or.inl rfl) (fun _ _ => rfl)⟩)
theorem s_leastSet {Q : Int → ml_St → Prop} {p h n : Int} {σ0 : ml_St} {t cl : Int → Int} (h2 : 2 ≤ h) (h5 : h ≤ 5) (pd : 118 < p) (n0 : 2 ≤ n) (n20 : n ≤ 20) (es : σ0 p 1 = n) (et : mt_teq n (σ0 (p + 1)) t) (tI : ∀ j, 0 ≤ j → j < n → ml_I8 (t j)) (hp : ∀ k : Nat, 2 * (k : Int) < n → (t (2 * k) = 120 ∨ t (2 * k) = 117) ∧ 2 * (k : Int) + 1 < n ∧ 48 ≤ t (2 * k + 1) ∧ t (2 * k + 1) ≤ 57 ∧ t (2 * k + 1) - 48 ≤ h - 2) (hc : mt_M h cl) (ec : mt_eq h (σ0 5) cl) (k : ∀ r σ, I32 r → mt_kp σ0 σ → Q r σ) : f_X5_leastSet σ0 p h Q := by
  have td : Int.tdiv n 2 = n / 2 := Int.tdiv_eq_ediv_of_nonneg (by omega)
  generalize hs : n / 2 = s at *
  have s1 : 1 ≤ s := by omega
  have s10 : s ≤ 10 := by omega
  have kpf : ∀ σ, mt_f78 σ0 σ → mt_kp σ0 σ := fun σ f j hj => f j (by omega)
  have rd : ∀ σ, mt_f78 σ0 σ → ∀ i, 0 ≤ i → i < s → (σ (p + 1) (2 * i) = t (2 * i) ∧ σ (p + 1) (2 * i + 1) = t (2 * i + 1) ∧ 48 ≤ t (2 * i + 1) ∧ t (2 * i + 1) ≤ 57 ∧ t (2 * i + 1) - 48 ≤ h - 2) := by
    intro σ f i i0 i1
    have := hp i.toNat (by omega)
    rw [show ((i.toNat : Nat) : Int) = i by omega] at this
    rw [f (p + 1) (by omega)]
    exact ⟨et _ (by omega) (by omega), et _ (by omega) this.2.1, this.2.2.1, this.2.2.2.1, this.2.2.2.2⟩
  have p2 : (2 : Nat) ^ s.toNat ≤ 2 ^ 10 := Nat.pow_le_pow_right (by omega) (by omega)
  have esh : b_shl 1 s = ((2 ^ s.toNat : Nat) : Int) := by
    have := mb_shl (r := s.toNat) (by omega)
    rw [show ((s.toNat : Nat) : Int) = s by omega] at this
    exact this
  have L : ∀ (N : Nat) (set best few : Int) (σ : ml_St), 0 ≤ set → set ≤ ((2 ^ s.toNat : Nat) : Int) → ((2 ^ s.toNat : Nat) : Int) - set < N → mt_f78 σ0 σ → I32 best → 0 ≤ few → few ≤ 100 → (∀ j, (if set = 0 then s else 0) ≤ j → j ≤ s → ∃ v, mt_M h v ∧ mt_wv h σ (81 + 3 * j) v) → f_X5_leastSet_u36 Q (f_X5_leastSet_u234 Q p) p N σ h s best few set := by
    intro N
    induction N with
    | zero => intro set best few σ q0 q1 hN; omega
    | succ N ih =>
      intro set best few σ q0 q1 hN f hb f0 f1 hv
      unfold f_X5_leastSet_u36
      rw [esh]
      refine ⟨fun c => ?_, fun c => ?_⟩
      · unfold f_X5_leastSet_u234; exact k best σ hb (kpf σ f)
      -- on to the next set
      have NX : ∀ (σ : ml_St) (best few : Int), mt_f78 σ0 σ → I32 best → 0 ≤ few → few ≤ 100 → (∀ j, 0 ≤ j → j ≤ s → ∃ v, mt_M h v ∧ mt_wv h σ (81 + 3 * j) v) → f_X5_leastSet_u228 Q (f_X5_leastSet_u36 Q (f_X5_leastSet_u234 Q p) p N) p σ h s best few set := by
        intro σ best few f hb f0 f1 hv
        unfold f_X5_leastSet_u228
        refine ⟨mt_I (by omega) (by omega), fun y e => ?_⟩
        subst e
        exact ih (set + 1) best few σ (by omega) (by omega) (by omega) f hb f0 f1 (fun j j0 j1 => hv j (by rw [if_neg (by omega)] at j0; exact j0) j1)
      -- the set is done
      have DN : ∀ (σ : ml_St), mt_f78 σ0 σ → (∀ j, 0 ≤ j → j ≤ s → ∃ v, mt_M h v ∧ mt_wv h σ (81 + 3 * j) v) → f_X5_leastSet_u190 Q (f_X5_leastSet_u36 Q (f_X5_leastSet_u234 Q p) p N) p σ h s best few set := by
        intro σ f hv
        unfold f_X5_leastSet_u190
        rw [show set = ((set.toNat : Nat) : Int) by omega]
        refine s_bitCount (by omega) ?_
        have hpc := mb_sw_pc (n := set.toNat) (by omega)
        have hle := mb_pc_le 16 set.toNat
        rw [show ((set.toNat : Nat) : Int) = set by omega]
        refine fun _ => ⟨fun _ => NX σ best few f hb f0 f1 hv, fun c2 => ⟨by omega, by omega, ?_⟩⟩
        obtain ⟨v, v1, v2⟩ := hv 0 (by omega) (by omega)
        refine s_leavesOne h2 h5 (by omega) v1 v2 hc (fun e e0 e1 => by rw [f 5 (by omega)]; exact ec e e0 e1) (fun r σ4 _ f4 _ => ?_)
        have f4' : mt_f78 σ0 σ4 := mt_f78_t f (fun j hj => f4 j (by omega))
        have hv4 : ∀ j, 0 ≤ j → j ≤ s → ∃ v, mt_M h v ∧ mt_wv h σ4 (81 + 3 * j) v := fun j j0 j1 => by
          obtain ⟨v, v1, v2⟩ := hv j j0 j1
          exact ⟨v, v1, mt_wv_eq (f4 _ (by omega)) (f4 _ (by omega)) (f4 _ (by omega)) v2⟩
        exact ⟨fun _ => NX σ4 best few f4' hb f0 f1 hv4, fun _ => NX σ4 set _ f4' ⟨by omega, by omega⟩ (by omega) (by omega) hv4⟩
      -- the tails from x down
      have D : ∀ (M : Nat) (x : Int) (σ : ml_St), -1 ≤ x → x < s → x + 1 < M → mt_f78 σ0 σ → (∀ j, (if set = 0 then x + 1 else 0) ≤ j → j ≤ s → ∃ v, mt_M h v ∧ mt_wv h σ (81 + 3 * j) v) → f_X5_leastSet_u74 Q (f_X5_leastSet_u190 Q (f_X5_leastSet_u36 Q (f_X5_leastSet_u234 Q p) p N) p) p M σ h s best few set x := by
        intro M
        induction M with
        | zero => intro x σ x0 x1 hM; omega
        | succ M ihM =>
          intro x σ x0 x1 hM f hv
          unfold f_X5_leastSet_u74
          refine ⟨fun c2 => DN σ f (fun j j0 j1 => hv j (by split <;> omega) j1), fun c2 => ?_⟩
          obtain ⟨r1, r2, r3, r4, r5⟩ := rd σ f x (by omega) x1
          have go : ∀ s2 : Int, (s2 = 0 ∨ s2 = 1) → f_X5_leastSet_u121 Q (f_X5_leastSet_u74 Q (f_X5_leastSet_u190 Q (f_X5_leastSet_u36 Q (f_X5_leastSet_u234 Q p) p N) p) p M) p σ h s best few set x s2 := by
            intro s2 _
            have go2 : ∀ u : Int, (u = 0 ∨ u = 1) → f_X5_leastSet_u153 Q (f_X5_leastSet_u74 Q (f_X5_leastSet_u190 Q (f_X5_leastSet_u36 Q (f_X5_leastSet_u234 Q p) p N) p) p M) p σ h s best few set x (2 * (t (2 * x + 1) - 48)) u := by
              intro u hu
              unfold f_X5_leastSet_u153
              refine ⟨mt_I (by omega) (by omega), s_beSign h2 h5 (by omega) (by omega) (fun σ2 g2 w2 => ⟨by omega, by omega, mt_I (by omega) (by omega), by omega, by omega, ?_⟩)⟩
              obtain ⟨v, v1, v2⟩ := hv (x + 1) (by split <;> omega) (by omega)
              refine s_beBoth h2 h5 (by omega) (by omega) (mt_sgn_M h5 (by omega) (by omega)) v1 w2 (mt_wv_fr g2 (by omega) v2) (fun σ6 g6 w6 => ⟨mt_I (by omega) (by omega), fun y e => ?_⟩)
              have f6 : mt_f78 σ0 σ6 := mt_f78_t f (fun j hj => by rw [g6 j (by omega) (by omega) (by omega), g2 j (by omega) (by omega) (by omega)])
              have e : y = x - 1 := by omega
              subst e
              refine ihM (x - 1) σ6 (by omega) (by omega) (by omega) f6 (fun j j0 j1 => ?_)
              by_cases z : j = x
              · subst z
                exact ⟨_, mt_both_M h5 (mt_sgn_M h5 (by omega) (by omega)) v1, w6⟩
              · obtain ⟨u', u1, u2⟩ := hv j (by by_cases z0 : set = 0; · rw [if_pos z0] at j0 ⊢; omega
                                                · rw [if_neg z0] at j0 ⊢; omega) j1
                exact ⟨u', u1, mt_wv_fr g6 (by omega) (mt_wv_fr g2 (by omega) u2)⟩
            unfold f_X5_leastSet_u121
            rw [r2]
            exact ⟨mt_I (by omega) (by omega), mt_I (by omega) (by omega), by omega, by omega, fun _ => ⟨mt_I (by omega) (by omega), mt_I (by omega) (by omega), fun _ => go2 0 (Or.inl rfl), fun _ => go2 1 (Or.inr rfl)⟩⟩
          have go3 : ∀ u : Int, f_X5_leastSet_u98 Q (f_X5_leastSet_u74 Q (f_X5_leastSet_u190 Q (f_X5_leastSet_u36 Q (f_X5_leastSet_u234 Q p) p N) p) p M) p σ h s best few set x u := by
            intro u
            unfold f_X5_leastSet_u98
            unfold f_X5_leastSet_u113
            exact ⟨fun _ => ⟨fun _ => go 0 (Or.inl rfl), fun _ => go 1 (Or.inr rfl)⟩, fun _ => ⟨fun _ => go 0 (Or.inl rfl), fun _ => go 1 (Or.inr rfl)⟩⟩
          exact ⟨mt_I (by omega) (by omega), by omega, by omega, fun _ => ⟨fun _ => go3 0, fun _ => go3 1⟩⟩
      refine ⟨fun c2 => ?_, fun c2 => ⟨mt_I (by omega) (by omega), ?_⟩⟩
      · obtain ⟨m0, m1, m2⟩ := mb_lo_e (n := set.toNat) (by omega) (by omega)
        rw [show ((set.toNat : Nat) : Int) = set by omega] at m0 m1 m2
        refine ⟨mt_I (by omega) (by omega), mt_I (by omega) (by omega), ?_⟩
        rw [show b_and set (-set) - 1 = (((b_and set (-set) - 1).toNat : Nat) : Int) by omega]
        refine s_bitCount (by omega) ?_
        have hlt : mb_sw (b_and set (-set) - 1).toNat < s.toNat := by
          rcases Nat.lt_or_ge (mb_sw (b_and set (-set) - 1).toNat) s.toNat with z | z
          · exact z
          · have := Nat.pow_le_pow_right (n := 2) (by omega) z
            omega
        refine fun _ => ?_
        unfold f_X5_leastSet_u68
        rw [if_neg c2] at hv
        exact ⟨20, D 20 _ σ (by omega) (by omega) (by omega) f (fun j j0 j1 => hv j (by rw [if_neg c2] at j0; exact j0) j1)⟩
      · unfold f_X5_leastSet_u68
        rw [if_pos c2] at hv
        exact ⟨20, D 20 _ σ (by omega) (by omega) (by omega) f (fun j j0 j1 => hv j (by rw [if_pos c2] at j0; omega) j1)⟩
  unfold f_X5_leastSet f_X5_leastSet_u0
  rw [es, td]
  refine fun _ => ⟨by omega, mt_I (by omega) (by omega), fun y3 e3 => ?_⟩
  have e3 : y3 = s := by omega
  subst e3
  refine ⟨by omega, by omega, s_beStraight h2 h5 (fun σ5 f5 w5 => ⟨2 ^ y3.toNat + 1, ?_⟩)⟩
  refine L _ 0 (-2) 11 σ5 (by omega) (Int.natCast_nonneg _) (by omega) (fun j hj => f5 j (by omega) (by omega) (by omega)) (mt_I (by omega) (by omega)) (by omega) (by omega) (fun j j0 j1 => ?_)
  rw [if_pos rfl] at j0
  have : j = y3 := by omega
  subst this
  exact ⟨_, mt_str_M h5, w5⟩
theorem c_mend {Q : Int → ml_St → Prop} {h told ts cap w : Int} {tb cl pr sz : Int → Int} {T : Int → Int → Int} {σ0 : ml_St} (i : IC h told ts cap tb cl pr sz T σ0) (k : ∀ r σ, IC h told ts cap tb cl pr sz T σ → (∀ j, 215 ≤ j → σ j = σ0 j) → Q r σ) : f_X11_mend σ0 w Q := by
  have a := i.1
  have t16 := a.2.2.2.2.2
  have c := i.2.2.1
  have no : ∀ r, Q r σ0 := fun r => k r σ0 i (fun _ _ => rfl)
  unfold f_X11_mend f_X11_mend_u0
  unfold f_X11_mend_u34
  refine s_isTold a.2.1 (fun w0 w1 _ => ⟨fun z => absurd z (by omega), fun _ => ⟨w0, by omega, fun _ => ⟨fun _ => no _, fun z => ⟨w0, by omega, fun _ => ⟨fun z2 => ⟨w0, by omega, ?_⟩, fun _ => no _⟩⟩⟩⟩⟩) (fun _ _ => ⟨fun _ => no _, fun z => absurd rfl z⟩)
  obtain ⟨⟨g, e1, et, e2⟩, -⟩ := IC_w i w0 w1
  rw [a.1]
  have hall := mt_pl_all (t := T w) (sz w).toNat (by rw [← e2]; exact z)
  have g1 := g.1
  have g2 := g.2.1
  have prs := mt_pairs (t := T w) (n := sz w) (h := h) (w := w) (by omega) (fun j j0 j1 => by have := hall j.toNat (by omega); rw [show ((j.toNat : Nat) : Int) = j by omega] at this; exact this) _ 0 0 1 (Int.le_refl 0) g.2.2.2 (by omega) (by omega)
  have prs' : ∀ k : Nat, 2 * (k : Int) < sz w → (T w (2 * k) = 120 ∨ T w (2 * k) = 117) ∧ 2 * (k : Int) + 1 < sz w ∧ 48 ≤ T w (2 * k + 1) ∧ T w (2 * k + 1) ≤ 57 ∧ T w (2 * k + 1) - 48 ≤ h - 2 := fun k hk => by
    have := prs k (by omega)
    rw [show (0 : Int) + 2 * k = 2 * k by omega] at this
    exact this
  have n2 : 2 ≤ sz w := by have := (prs' 0 (by omega)).2.1; omega
  refine fun _ => s_leastSet (n := sz w) (t := T w) a.2.2.1 a.2.2.2.1 (by omega) n2 (by omega) e1 (by rw [show 119 + 6 * w + 1 = 120 + 6 * w by omega]; exact et) g.2.2.1 prs' c.2.2.2.1 c.2.2.1 (fun r σ _ kp _ => k r σ (IC_kp kp i) (mt_kp_m kp))
/-! the class: power, rule, left, those, first, back (that they end) -/
theorem IC_study {Q : ml_St → Prop} {h told ts cap w : Int} {tb cl pr sz : Int → Int} {T : Int → Int → Int} {σ0 : ml_St} (i : IC h told ts cap tb cl pr sz T σ0) (w0 : 0 ≤ w) (w1 : w < told) (k : ∀ σ, mt_f46 σ0 σ → mt_pw σ → Q σ) : f_X6_study σ0 (119 + 6 * w + 2) (σ0 1 11) Q := by
  obtain ⟨g1, g2, g3, g4⟩ := IC_w i w0 w1
  have c := i.2.2.1
  rw [i.1.1, show 119 + 6 * w + 2 = 121 + 6 * w by omega]
  exact s_study i.1.2.2.1 i.1.2.2.2.1 (Or.inr (by omega)) (by omega) g3 g2 c.2.2.2.1 c.2.2.1 k
theorem c_power {Q : Int → ml_St → Prop} {h told ts cap w x : Int} {tb cl pr sz : Int → Int} {T : Int → Int → Int} {σ0 : ml_St} (i : IC h told ts cap tb cl pr sz T σ0) (k : ∀ r σ, IC h told ts cap tb cl pr sz T σ → (∀ j, 215 ≤ j → σ j = σ0 j) → Q r σ) : f_X11_power σ0 w x Q := by
  have no : ∀ r, Q r σ0 := fun r => k r σ0 i (fun _ _ => rfl)
  have t16 := i.1.2.2.2.2.2
  unfold f_X11_power f_X11_power_u0
  unfold f_X11_power_u17 f_X11_power_u64
  refine c_isMade i (fun q _ => ⟨fun z => absurd z (by omega), fun _ => ⟨fun _ => no _, fun _ => ⟨fun _ => ⟨q.1, by have := q.2.1; omega, fun _ => IC_study i q.1 q.2.1 (fun σ f p => ⟨fun _ _ => k _ σ (IC_kp (mt_f46_kp f) i) (mt_kp_m (mt_f46_kp f)), fun _ _ => k _ σ (IC_kp (mt_f46_kp f) i) (mt_kp_m (mt_f46_kp f))⟩)⟩, fun _ => no _⟩⟩⟩) (fun _ _ => ⟨fun _ => no _, fun z => absurd rfl z⟩)
theorem c_rule {Q : Int → ml_St → Prop} {h told ts cap w x : Int} {tb cl pr sz : Int → Int} {T : Int → Int → Int} {σ0 : ml_St} (i : IC h told ts cap tb cl pr sz T σ0) (k : ∀ r σ, IC h told ts cap tb cl pr sz T σ → (∀ j, 215 ≤ j → σ j = σ0 j) → Q r σ) : f_X11_rule σ0 w x Q := by
  have no : ∀ r, Q r σ0 := fun r => k r σ0 i (fun _ _ => rfl)
  have t16 := i.1.2.2.2.2.2
  unfold f_X11_rule f_X11_rule_u0
  unfold f_X11_rule_u17 f_X11_rule_u88
  refine c_isMade i (fun q _ => ⟨fun z => absurd z (by omega), fun _ => ⟨fun _ => no _, fun _ => ⟨fun _ => ⟨q.1, by have := q.2.1; omega, fun _ => IC_study i q.1 q.2.1 (fun σ f p => s_findRule p (fun σ2 f2 _ => ?_))⟩, fun _ => no _⟩⟩⟩) (fun _ _ => ⟨fun _ => no _, fun z => absurd rfl z⟩)
  have f' := mt_f46_kp (mt_f46_t f f2)
  exact ⟨fun _ => ⟨fun _ _ => k _ σ2 (IC_kp f' i) (mt_kp_m f'), fun _ _ => k _ σ2 (IC_kp f' i) (mt_kp_m f')⟩, fun _ _ => k _ σ2 (IC_kp f' i) (mt_kp_m f')⟩
theorem s_isPower {Q : Int → ml_St → Prop} {x : Int} {σ : ml_St} (k1 : 1 ≤ x → x ≤ 1000000000000000000 → Q 1 σ) (k0 : ¬ (1 ≤ x ∧ x ≤ 1000000000000000000) → Q 0 σ) : f_X11_isPower σ x Q := by
  unfold f_X11_isPower f_X11_isPower_u0
  unfold f_X11_isPower_u18 f_X11_isPower_u19
  exact ⟨fun c => k0 (by omega), fun c => ⟨fun d => k0 (by omega), fun d => k1 (by omega) (by omega)⟩⟩
theorem c_left {Q : Int → ml_St → Prop} {h told ts cap w x : Int} {tb cl pr sz : Int → Int} {T : Int → Int → Int} {σ0 : ml_St} (i : IC h told ts cap tb cl pr sz T σ0) (k : ∀ r σ, IC h told ts cap tb cl pr sz T σ → (∀ j, 215 ≤ j → σ j = σ0 j) → Q r σ) : f_X11_left σ0 w x Q := by
  have no : ∀ r, Q r σ0 := fun r => k r σ0 i (fun _ _ => rfl)
  have t16 := i.1.2.2.2.2.2
  unfold f_X11_left f_X11_left_u0
  unfold f_X11_left_u15
  refine c_isMade i (fun q _ => ⟨fun z => absurd z (by omega), fun _ => s_isPower (fun x0 x1 _ => ⟨fun _ => ⟨q.1, by have := q.2.1; omega, fun _ => IC_study i q.1 q.2.1 (fun σ f p => s_loopsOf p (by omega) ⟨by omega, by omega⟩ (fun r _ _ => k _ σ (IC_kp (mt_f46_kp f) i) (mt_kp_m (mt_f46_kp f))))⟩, fun z => absurd z (by omega)⟩) (fun _ _ => ⟨fun z => absurd rfl z, fun _ => no _⟩)⟩) (fun _ _ => ⟨fun _ => no _, fun z => absurd rfl z⟩)
theorem c_those {Q : Int → ml_St → Prop} {h told ts cap w x y z : Int} {tb cl pr sz : Int → Int} {T : Int → Int → Int} {σ0 : ml_St} (i : IC h told ts cap tb cl pr sz T σ0) (k : ∀ r σ, IC h told ts cap tb cl pr sz T σ → (∀ j, 215 ≤ j → σ j = σ0 j) → Q r σ) : f_X11_those σ0 w x y z Q := by
  have no : ∀ r, Q r σ0 := fun r => k r σ0 i (fun _ _ => rfl)
  have t16 := i.1.2.2.2.2.2
  unfold f_X11_those f_X11_those_u0
  unfold f_X11_those_u32
  refine c_isMade i (fun q _ => ⟨fun z => absurd z (by omega), fun _ => ⟨fun _ => no _, fun _ => ⟨fun _ => no _, fun _ => ?_⟩⟩⟩) (fun _ _ => ⟨fun _ => no _, fun z => absurd rfl z⟩)
  have go : f_X6_study σ0 (119 + 6 * w + 2) (σ0 1 11) (fun σ9 => f_X6_findRule σ9 (fun σ10 => f_X6_howMany σ10 x y z (fun r11 σ11 => ∀ _ : I64 r11, Q r11 σ11))) := IC_study i q.1 q.2.1 (fun σ f p => s_findRule p (fun σ2 f2 r2 => s_howMany6 r2 (fun r _ => k r σ2 (IC_kp (mt_f46_kp (mt_f46_t f f2)) i) (mt_kp_m (mt_f46_kp (mt_f46_t f f2))))))
  unfold f_X11_isStretch f_X11_isStretch_u0
  unfold f_X11_isStretch_u24 f_X11_isStretch_u25
  exact s_isPower (fun _ _ _ => ⟨fun z => absurd z (by omega), fun _ => s_isPower (fun _ _ _ => ⟨fun z => absurd z (by omega), fun _ => ⟨fun _ _ => ⟨fun z => absurd rfl z, fun _ => no _⟩, fun _ _ => ⟨fun _ => ⟨q.1, by have := q.2.1; omega, fun _ => go⟩, fun z => absurd z (by omega)⟩⟩⟩) (fun _ _ => ⟨fun _ _ => ⟨fun z => absurd rfl z, fun _ => no _⟩, fun z => absurd rfl z⟩)⟩) (fun _ _ => ⟨fun _ _ => ⟨fun z => absurd rfl z, fun _ => no _⟩, fun z => absurd rfl z⟩)
theorem c_first {Q : Int → ml_St → Prop} {h told ts cap w x : Int} {tb cl pr sz : Int → Int} {T : Int → Int → Int} {σ0 : ml_St} (i : IC h told ts cap tb cl pr sz T σ0) (k : ∀ r σ, IC h told ts cap tb cl pr sz T σ → (∀ j, 215 ≤ j → σ j = σ0 j) → Q r σ) : f_X11_first σ0 w x Q := by
  have no : ∀ r, Q r σ0 := fun r => k r σ0 i (fun _ _ => rfl)
  have t16 := i.1.2.2.2.2.2
  unfold f_X11_first f_X11_first_u0
  unfold f_X11_first_u22
  refine c_isMade i (fun q _ => ⟨fun z => absurd z (by omega), fun _ => ⟨fun _ => no _, fun _ => ⟨fun _ => ⟨q.1, by have := q.2.1; omega, fun _ => IC_study i q.1 q.2.1 (fun σ f p => s_findRule p (fun σ2 f2 r2 => s_firstWith r2 (fun r _ => k r σ2 (IC_kp (mt_f46_kp (mt_f46_t f f2)) i) (mt_kp_m (mt_f46_kp (mt_f46_t f f2))))))⟩, fun _ => no _⟩⟩⟩) (fun _ _ => ⟨fun _ => no _, fun z => absurd rfl z⟩)
theorem s_number8 {Q : Int → ml_St → Prop} {x ts : Int} {tb : Int → Int} {σ : ml_St} (x0 : 0 ≤ x) (x1 : x < 100) (k : ∀ r, Q r σ) : f_X8_number σ x Q := by
  have L : ∀ (N : Nat) (s n : Int), 4 * x ≤ n → n ≤ 4 * x + 4 → 4 * x + 4 - n < N → f_X8_number_u7 Q (f_X8_number_u46 Q) N σ x s n := by
    intro N
    induction N with
    | zero => intro s n n0 n1 hN; omega
    | succ N ih =>
      intro s n n0 n1 hN
      unfold f_X8_number_u7
      unfold f_X8_number_u46
      refine ⟨mt_I (by omega) (by omega), mt_I (by omega) (by omega), fun _ => k _, fun c => ⟨fun _ => k _, fun c2 => ⟨by omega, by omega, fun _ y8 _ => ⟨mt_I (by omega) (by omega), fun y9 e9 => ?_⟩⟩⟩⟩
      subst e9
      exact ih y8 (n + 1) (by omega) (by omega) (by omega)
  unfold f_X8_number f_X8_number_u0
  refine ⟨mt_I (by omega) (by omega), fun y2 e2 => ⟨10, ?_⟩⟩
  subst e2
  exact L 10 0 _ (by omega) (by omega) (by omega)
theorem c_back {Q : Int → ml_St → Prop} {h told ts cap n : Int} {tb cl pr sz : Int → Int} {T : Int → Int → Int} {σ0 : ml_St} (i : IC h told ts cap tb cl pr sz T σ0) (k0 : ¬ (1 ≤ n ∧ n ≤ 8 ∧ 4 * n ≤ ts) → Q (-1) σ0) (k1 : 1 ≤ n → n ≤ 8 → 4 * n ≤ ts → ∀ r σ, IC h told 0 cap tb cl pr sz T σ → (∀ j, 215 ≤ j → σ j = σ0 j) → Q r σ) : f_X11_back σ0 n Q := by
  have a := i.1
  have t16 := a.2.2.2.2.2
  unfold f_X11_back f_X11_back_u0
  rw [i.2.1.1]
  unfold f_X11_back_u24
  refine ⟨fun z => k0 (by omega), fun z => ⟨fun z2 => k0 (by omega), fun z2 _ => ⟨mt_I (by omega) (by omega), fun z3 => ⟨100, ?_⟩, fun z3 => k0 (by omega)⟩⟩⟩
  have k1 := k1 (by omega) (by omega) z3
  have L : ∀ (N : Nat) (v set : Int) (σ : ml_St), 0 ≤ v → v ≤ told → told - v < N → mt_f46 σ0 σ → f_X11_back_u30 Q (f_X11_back_u67 Q) N σ n set v := by
    intro N
    induction N with
    | zero => intro v set σ v0 v1 hN; omega
    | succ N ih =>
      intro v set σ v0 v1 hN f
      have iσ := IC_kp (mt_f46_kp f) i
      have nx : ∀ set σ, v < told → mt_f46 σ0 σ → f_X11_back_u61 Q (f_X11_back_u30 Q (f_X11_back_u67 Q) N) σ n set v := by
        intro set σ hv f
        unfold f_X11_back_u61
        refine ⟨mt_I (by omega) (by omega), fun y e => ?_⟩
        subst e
        exact ih (v + 1) set σ (by omega) (by omega) (by omega) f
      unfold f_X11_back_u30
      rw [iσ.1.2.1]
      refine fun _ => ⟨fun _ => ?_, fun c => c_isMade iσ (fun q _ => ⟨fun y => absurd y (by omega), fun _ => ?_⟩) (fun _ _ => ⟨fun _ => nx _ σ (by omega) f, fun y => absurd rfl y⟩)⟩
      · unfold f_X11_back_u67
        intro σ1 s1
        exact k1 set σ1 (IC_B0 (fun j h1 _ => by rw [s1, ml_up_k h1]) (by rw [s1, ml_up_same]) iσ) (fun j hj => by rw [s1, ml_up_k (by omega), f j (by omega)])
      · unfold f_X11_leavesAsTold f_X11_leavesAsTold_u0
        refine ⟨v0, by omega, fun _ => IC_study iσ v0 (by omega) (fun σ3 f3 p3 => ⟨20, ?_⟩)⟩
        have f' := mt_f46_t f f3
        have KK : ∀ r, ml_B r → (r = 0 → f_X11_back_u61 Q (f_X11_back_u30 Q (f_X11_back_u67 Q) N) σ3 n set v) ∧ (r ≠ 0 → ∀ y7 : Int, y7 = b_or set (b_shl 1 v) → f_X11_back_u61 Q (f_X11_back_u30 Q (f_X11_back_u67 Q) N) σ3 n y7 v) := fun r _ => ⟨fun _ => nx _ σ3 (by omega) f', fun _ _ _ => nx _ σ3 (by omega) f'⟩
        have I : ∀ (M : Nat) (m : Int), 0 ≤ m → m ≤ n → n - m < M → f_X11_leavesAsTold_u26 (fun r5 σ5 => ∀ _ : ml_B r5, (r5 = 0 → f_X11_back_u61 Q (f_X11_back_u30 Q (f_X11_back_u67 Q) N) σ5 n set v) ∧ (r5 ≠ 0 → ∀ y7 : Int, y7 = b_or set (b_shl 1 v) → f_X11_back_u61 Q (f_X11_back_u30 Q (f_X11_back_u67 Q) N) σ5 n y7 v)) (f_X11_leavesAsTold_u54 (fun r5 σ5 => ∀ _ : ml_B r5, (r5 = 0 → f_X11_back_u61 Q (f_X11_back_u30 Q (f_X11_back_u67 Q) N) σ5 n set v) ∧ (r5 ≠ 0 → ∀ y7 : Int, y7 = b_or set (b_shl 1 v) → f_X11_back_u61 Q (f_X11_back_u30 Q (f_X11_back_u67 Q) N) σ5 n y7 v))) (f_X11_leavesAsTold_u62 (fun r5 σ5 => ∀ _ : ml_B r5, (r5 = 0 → f_X11_back_u61 Q (f_X11_back_u30 Q (f_X11_back_u67 Q) N) σ5 n set v) ∧ (r5 ≠ 0 → ∀ y7 : Int, y7 = b_or set (b_shl 1 v) → f_X11_back_u61 Q (f_X11_back_u30 Q (f_X11_back_u67 Q) N) σ5 n y7 v))) M σ3 n m := by
          intro M
          induction M with
          | zero => intro m m0 m1 hM; omega
          | succ M ihM =>
            intro m m0 m1 hM
            unfold f_X11_leavesAsTold_u26
            unfold f_X11_leavesAsTold_u54 f_X11_leavesAsTold_u62
            refine ⟨fun _ => KK 1, fun c2 => ⟨mt_I (by omega) (by omega), s_loopsOf p3 (by omega) ⟨by omega, by omega⟩ (fun _ _ _ => s_number8 (ts := 0) (tb := tb) m0 (by omega) (fun _ _ => ⟨fun _ => ⟨mt_I (by omega) (by omega), fun y e => ?_⟩, fun _ => KK 0⟩))⟩⟩
            subst e
            exact ihM (m + 1) (by omega) (by omega) (by omega)
        exact I 20 0 (by omega) (by omega) (by omega)
  exact L 100 0 0 σ0 (by omega) a.2.2.2.2.1 (by omega) (fun _ _ => rfl)
/-! the class: a word is written out -/
/-- writing p's row: what may change -/
def mt_fro (p : Int) (σ σ' : ml_St) : Prop := (∀ j, j ≠ 9 → j ≠ 12 → j ≠ p → j ≠ p + 5 → σ' j = σ j) ∧ (∀ b, b ≠ 6 → b ≠ 7 → σ' p b = σ p b)
theorem mt_fro_t {p : Int} {σ σ1 σ2 : ml_St} (a : mt_fro p σ σ1) (b : mt_fro p σ1 σ2) : mt_fro p σ σ2 := ⟨fun j h1 h2 h3 h4 => by rw [b.1 j h1 h2 h3 h4, a.1 j h1 h2 h3 h4], fun j h1 h2 => by rw [b.2 j h1 h2, a.2 j h1 h2]⟩
theorem s_writeRow {Q : ml_St → Prop} {p q s n : Int} {σ : ml_St} (r0 : 0 ≤ σ p 6) (r1 : σ p 6 ≤ 2000) (s0 : 0 ≤ s) (n0 : 0 ≤ n) (sn : s + n ≤ 2000) (k : ∀ σ', (∀ j, j ≠ p → j ≠ p + 5 → σ' j = σ j) → (∀ b, b ≠ 6 → σ' p b = σ p b) → σ' p 6 = σ p 6 + min n (2000 - σ p 6) → (∀ j, σ' (p + 5) j = if σ p 6 ≤ j ∧ j < σ p 6 + min n (2000 - σ p 6) then σ q (s + (j - σ p 6)) else σ (p + 5) j) → Q σ') : f_X4_writeRow σ p q s n Q := by
  unfold f_X4_writeRow f_X4_writeRow_u0
  refine fun _ => ⟨mt_I (by omega) (by omega), fun y3 e3 _ => ⟨s0, r0, by omega, by omega, by omega, fun σ5 s5 => ?_⟩⟩
  have e5 : σ5 p = σ p := by rw [s5, mt_cpy_k (by omega)]
  rw [e5]
  refine fun _ => ⟨mt_I (by omega) (by omega), fun σ8 s8 => k σ8 (fun j h1 h2 => by rw [s8, ml_up_k h1, s5, mt_cpy_k h2]) (fun b hb => by rw [s8, ml_up_i hb, e5]) (by rw [s8, ml_up_same, e3]) (fun j => ?_)⟩
  rw [s8, ml_up_k (by omega), s5, mt_cpy2, e3]
  by_cases z : σ p 6 ≤ j ∧ j < σ p 6 + min n (2000 - σ p 6)
  · rw [if_pos ⟨rfl, z.1, z.2⟩, if_pos z]
  · rw [if_neg (fun y => z y.2), if_neg z]
/-- a row holds the first signs of E, P long -/
def mt_rw (p P : Int) (E : Int → Int) (σ : ml_St) : Prop := σ p 6 = min 2000 P ∧ ∀ j, 0 ≤ j → j < σ p 6 → σ (p + 5) j = E j
theorem mt_rw_k {p P : Int} {E : Int → Int} {σ σ' : ml_St} (e1 : σ' p 6 = σ p 6) (e2 : σ' (p + 5) = σ (p + 5)) (r : mt_rw p P E σ) : mt_rw p P E σ' := by unfold mt_rw; rw [e1, e2]; exact r
theorem s_repeatRow {Q : ml_St → Prop} {p A l tm : Int} {E : Int → Int} {σ : ml_St} (A0 : 0 ≤ A) (l0 : 0 ≤ l) (r : mt_rw p (A + l) E σ) (t0 : 0 ≤ tm) (t1 : tm < 1000000000) (k : ∀ σ', (∀ j, j ≠ p → j ≠ p + 5 → σ' j = σ j) → (∀ b, b ≠ 6 → σ' p b = σ p b) → mt_rw p (A + tm * l) (mt_wre A (A + l) E) σ' → Q σ') : f_X4_repeatRow σ p (min 2000 A) tm Q := by
  obtain ⟨r1, r2⟩ := r
  have el : A + l - A = l := by omega
  -- the item alone
  have base : ∀ j, 0 ≤ j → j < A + l → mt_wre A (A + l) E j = E j := fun j j0 j1 => by
    unfold mt_wre
    by_cases z : j < A
    · rw [if_pos z]
    · rw [if_neg z, el, Int.emod_eq_of_lt (by omega) (by omega), show A + (j - A) = j by omega]
  have L : ∀ (N : Nat) (x : Int) (σ1 : ml_St), tm ≠ 0 → 1 ≤ x → x ≤ tm → 2001 - σ1 p 6 < N → (∀ j, j ≠ p → j ≠ p + 5 → σ1 j = σ j) → (∀ b, b ≠ 6 → σ1 p b = σ p b) → mt_rw p (A + x * l) (mt_wre A (A + l) E) σ1 → f_X4_repeatRow_u19 Q (f_X4_repeatRow_u55 Q p) p N σ1 (min 2000 A) tm (min 2000 (A + l) - min 2000 A) x := by
    intro N
    induction N with
    | zero => intro x σ1 _ x0 x1 hN _ _ h; have := h.1; omega
    | succ N ih =>
      intro x σ1 tn x0 x1 hN f fb h
      obtain ⟨h1, h2⟩ := id h
      have xl : 1 * l ≤ x * l := Int.mul_le_mul_of_nonneg_right x0 l0
      have xt : x * l ≤ tm * l := Int.mul_le_mul_of_nonneg_right x1 l0
      have DN : min 2000 (A + x * l) = min 2000 (A + tm * l) → f_X4_repeatRow_u55 Q p σ1 := fun e => by
        unfold f_X4_repeatRow_u55
        exact k σ1 f fb ⟨by rw [h1, e], h2⟩
      unfold f_X4_repeatRow_u19
      refine ⟨fun c => DN (by rw [show x = tm by omega]), fun c => ⟨fun c2 => DN ?_, fun c2 _ => ⟨fun c3 => DN (by omega), fun c3 => ?_⟩⟩⟩
      · by_cases z : l = 0
        · rw [z, Int.mul_zero, Int.mul_zero]
        · omega
      · have sA : min 2000 A = A := by omega
        have sl : min 2000 (A + l) - min 2000 A = l := by omega
        rw [sl, sA]
        refine s_writeRow (by omega) (by omega) A0 l0 (by omega) (fun σ5 f5 fb5 e5 c5 => ⟨⟨by omega, by omega⟩, fun y e => ?_⟩)
        subst e
        have xs : (x + 1) * l = x * l + l := by rw [Int.add_mul, Int.one_mul]
        have go := ih (x + 1) σ5 tn (by omega) (by omega) (by omega) (fun j g1 g2 => by rw [f5 j g1 g2, f j g1 g2]) (fun b hb => by rw [fb5 b hb, fb b hb])
        rw [sl, sA] at go
        refine go ⟨by rw [e5, xs]; omega, fun j j0 j1 => ?_⟩
        rw [c5 j]
        by_cases z : σ1 p 6 ≤ j ∧ j < σ1 p 6 + min l (2000 - σ1 p 6)
        · rw [if_pos z, h2 _ (by omega) (by omega), base _ (by omega) (by omega)]
          unfold mt_wre
          rw [if_neg (by omega), el]
          have hx : j - A = (j - σ1 p 6) + l * x := by rw [Int.mul_comm]; omega
          rw [hx, Int.add_mul_emod_self_left, Int.emod_eq_of_lt (by omega) (by omega)]
        · rw [if_neg z]; exact h2 j j0 (by omega)
  unfold f_X4_repeatRow f_X4_repeatRow_u0
  rw [r1]
  refine fun _ => ⟨mt_I (by omega) (by omega), fun y3 e3 => ⟨fun tn => ?_, fun z σ5 s5 => ?_⟩⟩
  · rw [e3]
    unfold f_X4_repeatRow_u16
    exact ⟨2010, L 2010 1 σ tn (by omega) (by omega) (by omega) (fun _ _ _ => rfl) (fun _ _ => rfl) ⟨by rw [Int.one_mul]; exact r1, fun j j0 j1 => by rw [r2 j j0 j1, base j j0 (by omega)]⟩⟩
  · rw [e3]
    unfold f_X4_repeatRow_u16
    refine ⟨1, ?_⟩
    unfold f_X4_repeatRow_u19 f_X4_repeatRow_u55
    have go : Q σ5 := k σ5 (fun j h1 _ => by rw [s5, ml_up_k h1]) (fun b hb => by rw [s5, ml_up_i hb]) ⟨by rw [s5, ml_up_same, z, Int.zero_mul, Int.add_zero], fun j j0 j1 => by
      rw [s5, ml_up_same] at j1
      rw [s5, ml_up_k (by omega), r2 j j0 (by omega), base j j0 (by omega)]⟩
    exact ⟨fun _ => go, fun c => absurd c (by omega)⟩
theorem mb_i2b_s {x : Int} (h0 : 0 ≤ x) (h1 : x < 128) : b_i2b x = x := by
  have k : ∀ n : Nat, n < 128 → b_i2b (n : Int) = n := by decide +kernel
  have := k x.toNat (by omega)
  rw [show ((x.toNat : Nat) : Int) = x by omega] at this
  exact this
theorem s_writeSign {Q : ml_St → Prop} {p v P : Int} {E : Int → Int} {σ : ml_St} (P0 : 0 ≤ P) (r : mt_rw p P E σ) (v0 : 0 ≤ v) (v1 : v < 128) (k : ∀ σ', (∀ j, j ≠ p → j ≠ p + 5 → σ' j = σ j) → (∀ b, b ≠ 6 → σ' p b = σ p b) → mt_rw p (P + 1) (mt_wra P E (fun _ => v)) σ' → Q σ') : f_X4_writeSign σ p v Q := by
  obtain ⟨r1, r2⟩ := r
  unfold f_X4_writeSign f_X4_writeSign_u0
  unfold f_X4_writeSign_u31
  refine fun _ => ⟨fun c => k σ (fun _ _ _ => rfl) (fun _ _ => rfl) ⟨by omega, fun j j0 j1 => ?_⟩, fun c _ => ⟨by omega, by omega, fun σ4 s4 => ?_⟩⟩
  · unfold mt_wra; rw [if_pos (by omega)]; exact r2 j j0 j1
  have e4 : σ4 p = σ p := by rw [s4, ml_up_k (by omega)]
  rw [e4]
  refine fun _ => ⟨mt_I (by omega) (by omega), fun σ7 s7 => k σ7 (fun j h1 h2 => by rw [s7, ml_up_k h1, s4, ml_up_k h2]) (fun b hb => by rw [s7, ml_up_i hb, e4]) ⟨by rw [s7, ml_up_same]; omega, fun j j0 j1 => ?_⟩⟩
  rw [s7, ml_up_same] at j1
  rw [s7, ml_up_k (by omega), s4]
  unfold mt_wra
  by_cases z : j = σ p 6
  · rw [z, ml_up_same, if_neg (by omega), mb_i2b_s v0 v1]
  · rw [ml_up_i z, if_pos (by omega)]; exact r2 j j0 (by omega)
theorem s_writeOut {Q : ml_St → Prop} {h w n : Int} {t cx : Int → Int} {ex : Int → Int → Int} {σ0 : ml_St} (h5 : h ≤ 5) (w0 : 0 ≤ w) (w16 : w < 16) (g : mt_good h w t n) (en : σ0 (119 + 6 * w) 1 = n) (et : mt_teq n (σ0 (120 + 6 * w)) t) (hr : ∀ v, 0 ≤ v → v < w → 0 ≤ cx v ∧ mt_rw (119 + 6 * v) (cx v) (ex v) σ0) (k : ∀ σ, mt_fro (119 + 6 * w) σ0 σ → σ (119 + 6 * w) 7 = 1 → mt_rw (119 + 6 * w) (mt_ctw t n mt_one cx) (mt_wrw t n cx ex) σ → Q σ) : f_X4_writeOut σ0 (119 + 6 * w) Q := by
  have n1 := g.1
  have n100 := g.2.1
  have g4 : mt_gr (σ0 (120 + 6 * w)) n h w (n.toNat + 1) 0 0 1 = 0 := by rw [mt_gr_t et _ _ _ _ (Int.le_refl 0)]; exact g.2.2.2
  have ec : mt_ctw t n mt_one cx = mt_ctw (σ0 (120 + 6 * w)) n mt_one cx := (mt_ct_t (h := h) (w := w) (by omega) et (fun _ _ _ => rfl) _ _ _ 1 _ (Int.le_refl 0) (by omega) g4).symm
  have ew : mt_wrw t n cx ex = mt_wrw (σ0 (120 + 6 * w)) n cx ex := (mt_wr_t (h := h) (w := w) (by omega) et (fun _ _ _ => ⟨rfl, rfl⟩) _ _ _ 1 _ _ _ (Int.le_refl 0) (by omega) g4).symm
  rw [ec, ew] at k
  clear ec ew
  generalize hp : 119 + 6 * w = p at *
  have ep : 120 + 6 * w = p + 1 := by omega
  rw [ep] at g4 k
  have so0 : ∀ c, mt_one c = 1 := fun _ => rfl
  have tx : ml_tx (p + 1) := by rw [← ep]; exact mt_txw w0 w16
  have KE : ∀ σ, mt_fro p σ0 σ → mt_rw p (mt_ctw (σ0 (p + 1)) n mt_one cx) (mt_wrw (σ0 (p + 1)) n cx ex) σ → f_X4_writeOut_u183 Q p σ := by
    intro σ f q0
    unfold f_X4_writeOut_u183
    intro σ1 s1
    exact k σ1 (mt_fro_t f ⟨fun j _ _ h3 _ => by rw [s1, ml_up_k h3], fun b _ h2 => by rw [s1, ml_up_i h2]⟩) (by rw [s1, ml_up_same]) (mt_rw_k (by rw [s1, ml_up_i (by omega)]) (by rw [s1, ml_up_k (by omega)]) q0)
  have L : ∀ (F N : Nat) (i d need x4 : Int) (S U E : Int → Int) (σ : ml_St), σ 9 0 = p + 1 → σ 9 1 = n → σ 9 2 = i → mt_fro p σ0 σ → mt_rw p (U d + S d) E σ → (∀ k, 1 ≤ k → k ≤ d → σ 12 k = min 2000 (U k)) → (∀ k, 0 ≤ k → k < d → 0 ≤ S k ∧ U (k + 1) = U k + S k) → (∀ k, 0 ≤ k → k ≤ d → 0 ≤ U k) → U 0 = 0 → 0 ≤ S d → mt_ct (σ0 (p + 1)) n mt_one cx F i d S = mt_ctw (σ0 (p + 1)) n mt_one cx → mt_wr (σ0 (p + 1)) n cx ex F i d U (U d + S d) E = mt_wrw (σ0 (p + 1)) n cx ex → 0 ≤ i → i ≤ n → 0 ≤ d → d ≤ 6 → 0 ≤ x4 → x4 ≤ i → n - i < F → n - x4 < N → mt_gr (σ0 (p + 1)) n h w F i d need = 0 → f_X4_writeOut_u25 Q (f_X4_writeOut_u183 Q p) p N σ d x4 := by
    intro F
    induction F with
    | zero => intro N i d need x4 S U E σ _ _ _ _ _ _ _ _ _ _ _ _ i0 i1 d0 d6 x0 x1 hF; omega
    | succ F ih =>
      intro N i d need x4 S U E σ e0 e1 e2 f q0 hs hm hU U0 Sd hx hy i0 i1 d0 d6 x0 x1 hF hN g
      obtain ⟨N, rfl⟩ : ∃ N', N = N' + 1 := ⟨N - 1, by omega⟩
      have etx : σ (p + 1) = σ0 (p + 1) := f.1 _ (by omega) (by omega) (by omega) (by omega)
      unfold mt_ct at hx
      unfold mt_wr at hy
      have e1' : σ p 1 = n := by rw [f.2 1 (by omega) (by omega), en]
      unfold f_X4_writeOut_u25
      rw [e1']
      have gc := mt_gr_c (by omega) i0 g
      have fin : n ≤ i → mt_rw p (mt_ctw (σ0 (p + 1)) n mt_one cx) (mt_wrw (σ0 (p + 1)) n cx ex) σ := fun c => by
        have d00 : d = 0 := by rcases gc with z | z | z | z | z <;> omega
        subst d00
        rw [if_pos c] at hx hy
        rw [← hx, ← hy]
        rw [U0, Int.zero_add] at q0; exact q0
      refine fun _ => ⟨fun c => KE σ f (fin (by omega)), fun c => ?_⟩
      -- behind an item
      have AF : ∀ (i' d' : Int) (S' U' E' : Int → Int) (a l : Int) (σ2 : ml_St), σ2 9 0 = p + 1 → σ2 9 1 = n → σ2 9 2 = i' → 0 ≤ σ2 9 5 → σ2 9 5 < 1000000000 → mt_fro p σ0 σ2 → 0 ≤ a → 0 ≤ l → mt_rw p (U' d' + a + l) E' σ2 → (∀ k, 1 ≤ k → k ≤ d' → σ2 12 k = min 2000 (U' k)) → (∀ k, 0 ≤ k → k < d' → 0 ≤ S' k ∧ U' (k + 1) = U' k + S' k) → (∀ k, 0 ≤ k → k ≤ d' → 0 ≤ U' k) → U' 0 = 0 → mt_ct (σ0 (p + 1)) n mt_one cx F i' d' (mt_st S' d' (a + σ2 9 5 * l)) = mt_ctw (σ0 (p + 1)) n mt_one cx → mt_wr (σ0 (p + 1)) n cx ex F i' d' U' (U' d' + a + σ2 9 5 * l) (mt_wre (U' d' + a) (U' d' + a + l) E') = mt_wrw (σ0 (p + 1)) n cx ex → i < i' → i' ≤ n → 0 ≤ d' → d' ≤ 6 → mt_gr (σ0 (p + 1)) n h w F i' d' 0 = 0 → f_X4_writeOut_u164 Q (f_X4_writeOut_u25 Q (f_X4_writeOut_u183 Q p) p N) p σ2 d' x4 (min 2000 (U' d' + a)) := by
        intro i' d' S' U' E' a l σ2 e0 e1 e2 t0 t1 f2 a0 l0 r2 hs2 hm2 hU2 U02 hx2 hy2 ii' in' d0' d6' g'
        have Ud := hU2 d' d0' (Int.le_refl _)
        have tl := Int.mul_nonneg t0 l0
        unfold f_X4_writeOut_u164
        refine fun _ => s_repeatRow (by omega) l0 r2 t0 t1 (fun σ3 f3 fb3 h1 => ?_)
        unfold f_X4_writeOut_u177
        refine ⟨mt_I (by omega) (by omega), fun y1 ey1 => ?_⟩
        subst ey1
        have e9 : σ3 9 = σ2 9 := f3 9 (by omega) (by omega)
        have e12 : σ3 12 = σ2 12 := f3 12 (by omega) (by omega)
        have sd : mt_st S' d' (a + σ2 9 5 * l) d' = a + σ2 9 5 * l := if_pos rfl
        refine ih N i' d' 0 (x4 + 1) (mt_st S' d' (a + σ2 9 5 * l)) U' _ σ3 (by rw [e9, e0]) (by rw [e9, e1]) (by rw [e9, e2]) (mt_fro_t f2 ⟨fun j _ _ h3 h4 => f3 j h3 h4, fun b hb _ => fb3 b hb⟩) (by rw [sd, ← Int.add_assoc]; exact h1) (by rw [e12]; exact hs2) (fun k k0 k1 => ?_) hU2 U02 (by rw [sd]; omega) hx2 (by rw [sd, ← Int.add_assoc]; exact hy2) (by omega) in' d0' d6' (by omega) (by omega) (by omega) (by omega) g'
        unfold mt_st; rw [if_neg (by omega)]; exact hm2 k k0 k1
      have eta := mt_is_eta e0 e1 e2
      have ff3 : ∀ (i kd v tm : Int), mt_is σ (p + 1) n i kd v tm 9 3 = kd := fun _ _ _ _ => rfl
      have ff4 : ∀ (i kd v tm : Int), mt_is σ (p + 1) n i kd v tm 9 4 = v := fun _ _ _ _ => rfl
      have fI : ∀ (i kd v tm : Int), mt_fro p σ0 (mt_is σ (p + 1) n i kd v tm) := fun i kd v tm => mt_fro_t f ⟨fun j h1 _ _ _ => mt_is_k h1, fun b _ _ => by rw [mt_is_k (by omega)]⟩
      have pI : ∀ (i kd v tm : Int), mt_is σ (p + 1) n i kd v tm p = σ p := fun i kd v tm => mt_is_k (by omega)
      have rI : ∀ (i kd v tm : Int), mt_is σ (p + 1) n i kd v tm (p + 5) = σ (p + 5) := fun i kd v tm => mt_is_k (by omega)
      have Ud := hU d d0 (Int.le_refl _)
      have sI : ∀ (i kd v tm : Int), mt_is σ (p + 1) n i kd v tm 12 = σ 12 := fun i kd v tm => mt_is_k (by omega)
      rw [eta]
      rw [← etx] at g AF ih hx hy fin KE
      refine s_step (h := h) (w := w) (d := d) (need := need) (F := F) tx (by omega) i0 i1 n100 h5 g ?_ ?_ ?_ ?_ ?_
      · intro _ _ _ _
        exact ⟨fun _ => KE _ (fI _ _ _ _) (mt_rw_k (by rw [pI]) (rI _ _ _ _) (fin (by omega))), fun c => absurd rfl c⟩
      · intro z1 z2 z3 z4
        refine fun _ => ⟨fun c => absurd c (by omega), fun _ => ?_⟩
        rw [pI]
        intro _ y6 e6
        subst e6
        rw [ff3]
        refine fun _ => ⟨fun c => absurd rfl c, fun _ => ⟨mt_I (by omega) (by omega), fun y26 e26 => ?_⟩⟩
        have e26 : y26 = d + 1 := by omega
        subst e26
        refine ⟨by omega, by omega, fun σ27 s27 => ?_⟩
        unfold f_X4_writeOut_u177
        refine ⟨mt_I (by omega) (by omega), fun y1 ey1 => ?_⟩
        subst ey1
        have k27 : ∀ j, j ≠ 12 → σ27 j = mt_is σ (p + 1) n (i + 1) 0 (σ 9 4) 1 j := fun j hj => by rw [s27, ml_up_k hj]
        rw [if_neg (by omega), if_pos z2] at hx hy
        have u1 : mt_st U (d + 1) (U d + S d) (d + 1) = U d + S d := if_pos rfl
        have u2 : mt_st S (d + 1) 0 (d + 1) = 0 := if_pos rfl
        refine ih N (i + 1) (d + 1) 1 (x4 + 1) (mt_st S (d + 1) 0) (mt_st U (d + 1) (U d + S d)) E σ27 (by rw [k27 9 (by omega)]; rfl) (by rw [k27 9 (by omega)]; rfl) (by rw [k27 9 (by omega)]; rfl) (mt_fro_t (fI _ _ _ _) ⟨fun j _ h2 _ _ => k27 j h2, fun b _ _ => by rw [k27 p (by omega)]⟩) (by rw [u1, u2, Int.add_zero]; exact mt_rw_k (by rw [k27 p (by omega), pI]) (by rw [k27 _ (by omega), rI]) q0) (fun k k0 k1 => ?_) (fun k k0 k1 => ?_) (fun k k0 k1 => ?_) (by unfold mt_st; rw [if_neg (by omega)]; exact U0) (by rw [u2]; omega) hx (by rw [u1, u2, Int.add_zero]; exact hy) (by omega) (by omega) (by omega) (by omega) (by omega) (by omega) (by omega) (by omega) z4
        · rw [s27]
          by_cases q : k = d + 1
          · rw [q, ml_up_same, u1, q0.1]
          · rw [ml_up_i q, sI]; unfold mt_st; rw [if_neg q]; exact hs k k0 (by omega)
        · unfold mt_st
          rw [if_neg (show ¬ k = d + 1 by omega), if_neg (show ¬ k = d + 1 by omega)]
          by_cases q : k = d
          · rw [q, if_pos rfl]; exact ⟨Sd, rfl⟩
          · rw [if_neg (show ¬ k + 1 = d + 1 by omega)]; exact hm k k0 (by omega)
        · unfold mt_st
          by_cases q : k = d + 1
          · rw [if_pos q]; omega
          · rw [if_neg q]; exact hU k k0 (by omega)
      · intro z1 z2 z3 z4 z5 z6
        refine fun _ => ⟨fun c => absurd c (by omega), fun _ => ?_⟩
        rw [pI]
        intro _ y6 e6
        subst e6
        rw [ff3, sI]
        have r := mt_tn_r (t := σ (p + 1)) (n := n) (i := i + 1) (by omega)
        have rt := mt_tm_r (t := σ (p + 1)) (n := n) (i := i + 1) (by omega) z5
        rw [if_neg (by omega), if_neg (by omega), if_pos z2] at hx hy
        obtain ⟨m1, m2⟩ := hm (d - 1) (by omega) (by omega)
        rw [show d - 1 + 1 = d by omega] at m2
        have s12 := hs d (by omega) (by omega)
        refine fun _ => ⟨fun _ _ => ⟨fun c => absurd rfl c, fun _ => ⟨d0, by omega, fun _ y22 e22 => ⟨mt_I (by omega) (by omega), fun y24 e24 => ?_⟩⟩⟩, fun c => absurd c (by omega)⟩
        have e24 : y24 = d - 1 := by omega
        subst e24
        have e22 : y22 = min 2000 (U (d - 1) + S (d - 1)) := by rw [e22, s12, m2]
        subst e22
        exact AF (mt_tn (σ (p + 1)) n (i + 1)) (d - 1) S U E (S (d - 1)) (S d) _ rfl rfl rfl rt.1 rt.2 (fI _ _ _ _) m1 Sd (by rw [← m2]; exact mt_rw_k (by rw [pI]) (rI _ _ _ _) q0) (fun k k0 k1 => by rw [sI]; exact hs k k0 (by omega)) (fun k k0 k1 => hm k k0 (by omega)) (fun k k0 k1 => hU k k0 (by omega)) U0 hx (by rw [← m2]; rw [show U d + S d - U d = S d by omega] at hy; exact hy) (by omega) r.2 (by omega) (by omega) z6
      · intro z1 z2 z3 z4 z5 z6
        refine fun _ => ⟨fun c => absurd c (by omega), fun _ => ?_⟩
        rw [pI]
        intro _ y6 e6
        subst e6
        rw [ff3, ff4]
        have r := mt_tn_r (t := σ (p + 1)) (n := n) (i := i + 2) (by omega)
        have rt := mt_tm_r (t := σ (p + 1)) (n := n) (i := i + 2) (by omega) z5
        refine fun _ => ⟨fun _ _ => ⟨fun _ _ => ⟨fun c => absurd rfl c, fun _ _ => ?_⟩, fun c => absurd c (by omega)⟩, fun c => absurd c (by omega)⟩
        rw [if_neg (by omega), if_neg (by omega), if_neg (by omega), if_pos z2] at hx hy
        have vr : 0 ≤ 2 * (σ (p + 1) (i + 1) - 48) + (if σ (p + 1) i = 117 then 1 else 0) ∧ 2 * (σ (p + 1) (i + 1) - 48) + (if σ (p + 1) i = 117 then 1 else 0) < 128 := by split <;> omega
        refine s_writeSign (P := U d + S d) (E := E) (by omega) (mt_rw_k (by rw [pI]) (rI _ _ _ _) q0) vr.1 vr.2 (fun σ3 f3 fb3 h1 => ?_)
        have e9 : σ3 9 = mt_is σ (p + 1) n (mt_tn (σ (p + 1)) n (i + 2)) 2 (2 * (σ (p + 1) (i + 1) - 48) + (if σ (p + 1) i = 117 then 1 else 0)) (mt_tm (σ (p + 1)) n (i + 2)) 9 := f3 9 (by omega) (by omega)
        have e12 : σ3 12 = σ 12 := by rw [f3 12 (by omega) (by omega), sI]
        have e95 : σ3 9 5 = mt_tm (σ (p + 1)) n (i + 2) := by rw [e9]; rfl
        rw [q0.1]
        exact AF (mt_tn (σ (p + 1)) n (i + 2)) d S U _ (S d) 1 σ3 (by rw [e9]; rfl) (by rw [e9]; rfl) (by rw [e9]; rfl) (by rw [e95]; exact rt.1) (by rw [e95]; exact rt.2) (mt_fro_t (fI _ _ _ _) ⟨fun j _ _ h3 h4 => f3 j h3 h4, fun b hb _ => fb3 b hb⟩) Sd (by omega) h1 (by rw [e12]; exact hs) hm hU U0 (by rw [e95]; exact hx) (by rw [e95]; exact hy) (by omega) r.2 d0 d6 z6
      · intro z1 z2 z3 z4 z5 z6
        refine fun _ => ⟨fun c => absurd c (by omega), fun _ => ?_⟩
        rw [pI]
        intro _ y6 e6
        subst e6
        rw [ff3, ff4]
        have r := mt_tn_r (t := σ (p + 1)) (n := n) (i := i + 1) (by omega)
        have rt := mt_tm_r (t := σ (p + 1)) (n := n) (i := i + 1) (by omega) z5
        rw [if_neg (by omega), if_neg (by omega), if_neg (by omega), if_neg (by omega)] at hx hy
        obtain ⟨c0, c1, c2⟩ := hr (σ (p + 1) i - 65) (by omega) (by omega)
        have fv : ∀ j, j = 119 + 6 * (σ (p + 1) i - 65) ∨ j = 119 + 6 * (σ (p + 1) i - 65) + 5 → σ j = σ0 j := fun j hj => f.1 j (by omega) (by omega) (by omega) (by omega)
        rw [← fv _ (Or.inl rfl)] at c1 c2
        rw [← fv _ (Or.inr rfl)] at c2
        refine fun _ => ⟨fun _ _ => ⟨fun _ _ => ⟨fun _ _ => ⟨by omega, by omega, fun _ => ⟨by omega, by omega, fun _ => ?_⟩⟩, fun c => absurd c (by omega)⟩, fun c => absurd c (by omega)⟩, fun c => absurd c (by omega)⟩
        rw [mt_is_k (show 119 + 6 * (σ (p + 1) i - 65) ≠ 9 by omega)]
        obtain ⟨q1, q2⟩ := id q0
        refine s_writeRow (by rw [pI]; omega) (by rw [pI]; omega) (by omega) (by omega) (by omega) (fun σ3 f3 fb3 e3 c3 => ?_)
        rw [pI] at e3
        have e9 : σ3 9 = mt_is σ (p + 1) n (mt_tn (σ (p + 1)) n (i + 1)) 3 (σ (p + 1) i - 65) (mt_tm (σ (p + 1)) n (i + 1)) 9 := f3 9 (by omega) (by omega)
        have e12 : σ3 12 = σ 12 := by rw [f3 12 (by omega) (by omega), sI]
        have e95 : σ3 9 5 = mt_tm (σ (p + 1)) n (i + 1) := by rw [e9]; rfl
        have h1 : mt_rw p (U d + S d + cx (σ (p + 1) i - 65)) (mt_wra (U d + S d) E (ex (σ (p + 1) i - 65))) σ3 := by
          refine ⟨by rw [e3, q1, c1]; omega, fun j j0 j1 => ?_⟩
          rw [c3 j, pI, rI, mt_is_k (show 119 + 6 * (σ (p + 1) i - 65) + 5 ≠ 9 by omega)]
          unfold mt_wra
          by_cases z : σ p 6 ≤ j ∧ j < σ p 6 + min (σ (119 + 6 * (σ (p + 1) i - 65)) 6) (2000 - σ p 6)
          · rw [if_pos z, if_neg (by omega), show U d + S d = σ p 6 by omega, Int.zero_add]
            exact c2 _ (by omega) (by omega)
          · rw [if_neg z, if_pos (by omega)]; exact q2 j j0 (by omega)
        rw [q1]
        exact AF (mt_tn (σ (p + 1)) n (i + 1)) d S U _ (S d) (cx (σ (p + 1) i - 65)) σ3 (by rw [e9]; rfl) (by rw [e9]; rfl) (by rw [e9]; rfl) (by rw [e95]; exact rt.1) (by rw [e95]; exact rt.2) (mt_fro_t (fI _ _ _ _) ⟨fun j _ _ h3 h4 => f3 j h3 h4, fun b hb _ => fb3 b hb⟩) Sd c0 h1 (by rw [e12]; exact hs) hm hU U0 (by rw [e95]; exact hx) (by rw [e95]; exact hy) (by omega) r.2 d0 d6 z6
  unfold f_X4_writeOut f_X4_writeOut_u0
  intro σ1 s1
  rw [show σ1 p 1 = n by rw [s1, ml_up_i (by omega), en]]
  have f1 : mt_fro p σ0 σ1 := ⟨fun j _ _ h3 _ => by rw [s1, ml_up_k h3], fun b h1 _ => by rw [s1, ml_up_i h1]⟩
  refine fun _ => s_begin ⟨n.toNat + 1, ?_⟩
  refine L (n.toNat + 1) _ 0 0 1 0 (fun _ => 0) (fun _ => 0) (fun _ => 0) _ rfl rfl rfl (mt_fro_t f1 ⟨fun j h1 _ _ _ => mt_is_k h1, fun b _ _ => by rw [mt_is_k (by omega)]⟩) ⟨?_, fun j j0 j1 => ?_⟩ (fun k k0 k1 => absurd k1 (by omega)) (fun k k0 k1 => absurd k1 (by omega)) (fun k _ _ => Int.le_refl 0) rfl (Int.le_refl 0) rfl rfl (by omega) (by omega) (by omega) (by omega) (by omega) (by omega) (by omega) (by omega) g4
  · rw [mt_is_k (by omega), s1, ml_up_same]; omega
  · rw [mt_is_k (by omega), s1, ml_up_same] at j1; omega
/-! the walk of a thread: a step can be taken back, and the start comes from nowhere, so no place comes twice -/
def mw_sp (val : Int → Int) (s : Int × Int × Int) : Int × Int × Int :=
  let v := val s.1
  let r := if s.2.1 = v / 2 then v / 2 + 1 else if s.2.1 = v / 2 + 1 then v / 2 else s.2.1
  let w := if s.2.1 = v / 2 ∨ s.2.1 = v / 2 + 1 then (if v % 2 = 0 then s.2.2 else 1 - s.2.2) else s.2.2
  (s.1 + (if w = 0 then -1 else 1), r, w)
def mw_ob (val : Int → Int) (s : Int × Int × Int) : Nat → Int × Int × Int
  | 0 => s
  | k + 1 => mw_sp val (mw_ob val s k)
theorem mw_sp_1 (val : Int → Int) (s : Int × Int × Int) : (mw_sp val s).1 = s.1 + (if (mw_sp val s).2.2 = 0 then -1 else 1) := rfl
theorem mw_sp_r (val : Int → Int) (s : Int × Int × Int) : (mw_sp val s).2.1 = if s.2.1 = val s.1 / 2 then val s.1 / 2 + 1 else if s.2.1 = val s.1 / 2 + 1 then val s.1 / 2 else s.2.1 := rfl
theorem mw_sp_w (val : Int → Int) (s : Int × Int × Int) : (mw_sp val s).2.2 = if s.2.1 = val s.1 / 2 ∨ s.2.1 = val s.1 / 2 + 1 then (if val s.1 % 2 = 0 then s.2.2 else 1 - s.2.2) else s.2.2 := rfl
theorem mw_sp_i {val : Int → Int} {s s' : Int × Int × Int} (e : mw_sp val s = mw_sp val s') : s = s' := by
  have a1 := mw_sp_1 val s
  have b1 := mw_sp_1 val s'
  have a2 := mw_sp_r val s
  have b2 := mw_sp_r val s'
  have a3 := mw_sp_w val s
  have b3 := mw_sp_w val s'
  rw [e] at a1 a2 a3
  have e1 : s.1 = s'.1 := by omega
  rw [e1] at a2 a3
  generalize val s'.1 = v at *
  generalize v / 2 = q at *
  generalize v % 2 = u at *
  have e2 : s.2.1 = s'.2.1 := by
    rw [a2] at b2
    split at b2 <;> split at b2 <;> (try split at b2) <;> (try split at b2) <;> omega
  rw [e2] at a3
  have e3 : s.2.2 = s'.2.2 := by
    rw [a3] at b3
    split at b3
    · split at b3 <;> omega
    · exact b3
  obtain ⟨x, y, z⟩ := s
  obtain ⟨x', y', z'⟩ := s'
  dsimp only at e1 e2 e3
  rw [e1, e2, e3]
theorem mw_ob_i {val : Int → Int} {s : Int × Int × Int} : ∀ (i d : Nat), mw_ob val s i = mw_ob val s (i + d) → mw_ob val s 0 = mw_ob val s d := by
  intro i
  induction i with
  | zero => intro d e; rw [Nat.zero_add] at e; exact e
  | succ i ih =>
    intro d e
    rw [show i + 1 + d = (i + d) + 1 by omega] at e
    exact ih d (mw_sp_i e)
theorem mw_ob_b {val : Int → Int} {s : Int × Int × Int} {len : Int} {k : Nat} (l0 : 0 ≤ len) (l1 : len ≤ 2000) (st : (s.1 = 0 ∧ s.2.2 = 1) ∨ (s.1 = len - 1 ∧ s.2.2 = 0)) (hr : ∀ j, j < k → 0 ≤ (mw_ob val s j).2.1 ∧ (mw_ob val s j).2.1 < 5 ∧ ((mw_ob val s j).2.2 = 0 ∨ (mw_ob val s j).2.2 = 1)) (hp : ∀ j, j < k → 0 ≤ (mw_ob val s j).1 ∧ (mw_ob val s j).1 < len) : k ≤ 20000 := by
  by_cases q : k ≤ 20000
  · exact q
  · obtain ⟨i, j, hij, hj, e⟩ := mt_ph 20000 (fun i => ((mw_ob val s i).1 * 5 + (mw_ob val s i).2.1) * 2 + (mw_ob val s i).2.2) (fun i hi => by
      have a := hr i (by omega)
      have b := hp i (by omega)
      try dsimp only
      omega)
    try dsimp only at e
    have a := hr i (by omega)
    have b := hp i (by omega)
    have a' := hr j (by omega)
    have b' := hp j (by omega)
    have e1 : (mw_ob val s i).1 = (mw_ob val s j).1 := by omega
    have e2 : (mw_ob val s i).2.1 = (mw_ob val s j).2.1 := by omega
    have e3 : (mw_ob val s i).2.2 = (mw_ob val s j).2.2 := by omega
    have ee : mw_ob val s i = mw_ob val s (i + (j - i)) := by
      rw [show i + (j - i) = j by omega]
      exact Prod.ext e1 (Prod.ext e2 e3)
    have z := mw_ob_i i (j - i) ee
    obtain ⟨d, hd⟩ : ∃ d, j - i = d + 1 := ⟨j - i - 1, by omega⟩
    rw [hd] at z
    have z : s = mw_sp val (mw_ob val s d) := z
    have f := mw_sp_1 val (mw_ob val s d)
    rw [← z] at f
    have p := hp d (by omega)
    rcases st with ⟨s1, s2⟩ | ⟨s1, s2⟩
    · rw [s1, s2, if_neg (by omega)] at f; omega
    · rw [s1, s2, if_pos rfl] at f; omega
/-- the walk: at most N signs more; what is asked for is x -/
def mw_fin (x h : Int) (s : Int × Int × Int) : Int := if x = -1 then (if s.2.2 = 0 then s.2.1 else s.2.1 + h) else -1
def mw_out (len : Int) (s : Int × Int × Int) : Prop := s.1 < 0 ∨ len ≤ s.1
def mw_on (val : Int → Int) (s : Int × Int × Int) : Prop := s.2.1 = val s.1 / 2 ∨ s.2.1 = val s.1 / 2 + 1
def mw (val : Int → Int) (len x h : Int) : Nat → Int × Int × Int → Int → Int
  | 0, s, _ => mw_fin x h s
  | N + 1, s, c => if s.1 < 0 ∨ len ≤ s.1 then mw_fin x h s else if s.2.1 = val s.1 / 2 ∨ s.2.1 = val s.1 / 2 + 1 then (if c = x then s.1 else mw val len x h N (mw_sp val s) (c + 1)) else mw val len x h N (mw_sp val s) c
def mw_e (val : Int → Int) (len x : Int) : Nat → Int × Int × Int → Int → Prop
  | 0, s, _ => mw_out len s
  | N + 1, s, c => mw_out len s ∨ (mw_on val s ∧ (c = x ∨ mw_e val len x N (mw_sp val s) (c + 1))) ∨ (¬ mw_on val s ∧ mw_e val len x N (mw_sp val s) c)
/-- signs as they stand in a row -/
def mw_v (h : Int) (val : Int → Int) : Prop := ∀ j, 0 ≤ val j ∧ val j ≤ 2 * (h - 2) + 1
def mw_s (h : Int) (s : Int × Int × Int) : Prop := 0 ≤ s.2.1 ∧ s.2.1 < h ∧ (s.2.2 = 0 ∨ s.2.2 = 1)
theorem mw_s_n {h : Int} {val : Int → Int} {s : Int × Int × Int} (v : mw_v h val) (r : mw_s h s) : mw_s h (mw_sp val s) := by
  obtain ⟨r1, r2, r3⟩ := r
  have v0 := v s.1
  have a := mw_sp_r val s
  have b := mw_sp_w val s
  refine ⟨?_, ?_, ?_⟩
  · rw [a]; split
    · omega
    · split <;> omega
  · rw [a]; split
    · omega
    · split <;> omega
  · rw [b]; split
    · split <;> omega
    · exact r3
theorem mw_ends {h len x : Int} {val : Int → Int} {s : Int × Int × Int} (h5 : h ≤ 5) (v : mw_v h val) (l0 : 0 ≤ len) (l1 : len ≤ 2000) (r : mw_s h s) (st : (s.1 = 0 ∧ s.2.2 = 1) ∨ (s.1 = len - 1 ∧ s.2.2 = 0)) (c : Int) : mw_e val len x 20000 s c := by
  have R : ∀ n, mw_s h (mw_ob val s n) := by
    intro n
    induction n with
    | zero => exact r
    | succ n ih => exact mw_s_n v ih
  have L : ∀ (d n : Nat) (c : Int), n + d = 20000 → (∀ j, j < n → 0 ≤ (mw_ob val s j).1 ∧ (mw_ob val s j).1 < len) → mw_e val len x d (mw_ob val s n) c := by
    intro d
    induction d with
    | zero =>
      intro n c hn hp
      show mw_out len (mw_ob val s n)
      unfold mw_out
      rcases Classical.em ((mw_ob val s n).1 < 0 ∨ len ≤ (mw_ob val s n).1) with z | z
      · exact z
      · exfalso
        have := mw_ob_b (val := val) (k := n + 1) l0 l1 st (fun j _ => by have := R j; unfold mw_s at this; omega) (fun j hj => by
          by_cases q : j = n
          · rw [q]; omega
          · exact hp j (by omega))
        omega
    | succ d ih =>
      intro n c hn hp
      show mw_out len (mw_ob val s n) ∨ _ ∨ _
      rcases Classical.em (mw_out len (mw_ob val s n)) with z | z
      · exact Or.inl z
      · have nx : ∀ c, mw_e val len x d (mw_sp val (mw_ob val s n)) c := fun c => ih (n + 1) c (by omega) (fun j hj => by
          by_cases q : j = n
          · rw [q]; unfold mw_out at z; omega
          · exact hp j (by omega))
        rcases Classical.em (mw_on val (mw_ob val s n)) with y | y
        · exact Or.inr (Or.inl ⟨y, Or.inr (nx _)⟩)
        · exact Or.inr (Or.inr ⟨y, nx _⟩)
  exact L 20000 0 c (by omega) (fun j hj => absurd hj (by omega))
theorem s_follow {Q : Int → ml_St → Prop} {p e x h len : Int} {val : Int → Int} {σ : ml_St} (h2 : 2 ≤ h) (h5 : h ≤ 5) (e0 : 0 ≤ e) (e1 : e < 2 * h) (v : mw_v h val) (l0 : 0 ≤ len) (l1 : len ≤ 2000) (el : σ p 6 = len) (ev : ∀ j, 0 ≤ j → j < len → σ (p + 5) j = val j) (k : Q (mw val len x h 20000 (if e < h then 0 else len - 1, if e < h then e else e - h, if e < h then 1 else 0) 0) σ) : f_X10_follow σ p e x h Q := by
  have L : ∀ (d N : Nat) (s : Int × Int × Int) (c steps : Int), mw_e val len x d s c → mw_s h s → 0 ≤ c → c ≤ steps → steps + d ≤ 20000 → -1 ≤ s.1 → s.1 ≤ 2000 → d < N → Q (mw val len x h d s c) σ → f_X10_follow_u54 Q (f_X10_follow_u108 Q p) (f_X10_follow_u175 Q p) p N σ x h s.2.2 s.2.1 s.1 c 20000 steps := by
    intro d
    induction d with
    | zero =>
      intro N s c steps he hs c0 c1 sd p0 p1 hN k
      obtain ⟨N, rfl⟩ : ∃ N', N = N' + 1 := ⟨N - 1, by omega⟩
      have KE : f_X10_follow_u175 Q p σ x h s.2.2 s.2.1 := by
        have k : Q (mw_fin x h s) σ := k
        unfold mw_fin at k
        unfold f_X10_follow_u175
        unfold f_X10_follow_u196
        refine ⟨fun z => ⟨fun y => ?_, fun y => ⟨mt_I (by have := hs.1; omega) (by have := hs.2.1; omega), ?_⟩⟩, fun z => ?_⟩
        · rw [if_pos z, if_pos y] at k; exact k
        · rw [if_pos z, if_neg y] at k; exact k
        · rw [if_neg z] at k; exact k
      have he : s.1 < 0 ∨ len ≤ s.1 := he
      unfold f_X10_follow_u54
      rw [el]
      exact ⟨fun _ => KE, fun q1 => ⟨fun _ => KE, fun q2 _ => ⟨fun _ => KE, fun q3 => absurd he (by omega)⟩⟩⟩
    | succ d ih =>
      intro N s c steps he hs c0 c1 sd p0 p1 hN k
      obtain ⟨N, rfl⟩ : ∃ N', N = N' + 1 := ⟨N - 1, by omega⟩
      unfold mw at k
      unfold f_X10_follow_u54
      rw [el]
      have KE : (s.1 < 0 ∨ len ≤ s.1) → f_X10_follow_u175 Q p σ x h s.2.2 s.2.1 := fun w => by
        rw [if_pos w] at k
        unfold mw_fin at k
        unfold f_X10_follow_u175
        unfold f_X10_follow_u196
        refine ⟨fun z => ⟨fun y => ?_, fun y => ⟨mt_I (by have := hs.1; omega) (by have := hs.2.1; omega), ?_⟩⟩, fun z => ?_⟩
        · rw [if_pos z, if_pos y] at k; exact k
        · rw [if_pos z, if_neg y] at k; exact k
        · rw [if_neg z] at k; exact k
      refine ⟨fun q => absurd q (by omega), fun _ => ⟨fun q2 => KE (Or.inl q2), fun q2 _ => ⟨fun q3 => KE (Or.inr q3), fun q3 => ⟨by omega, by omega, ?_⟩⟩⟩⟩
      have ei : ¬ (s.1 < 0 ∨ len ≤ s.1) := by omega
      rw [if_neg ei] at k
      rw [ev s.1 (by omega) (by omega)]
      have vr := v s.1
      have f1 := mw_sp_1 val s
      have f2 := mw_sp_r val s
      have f3 := mw_sp_w val s
      have hn := mw_s_n v hs
      obtain ⟨s1, s2, s3⟩ := id hs
      have td : Int.tdiv (val s.1) 2 = val s.1 / 2 := Int.tdiv_eq_ediv_of_nonneg vr.1
      have tm : Int.tmod (val s.1) 2 = val s.1 % 2 := Int.tmod_eq_emod_of_nonneg vr.1
      rw [td]
      refine fun _ => ⟨by omega, mt_I (by omega) (by omega), fun y7 e7 => ?_⟩
      rw [← e7] at f2 f3 k
      -- on to the next
      have MV : ∀ c', 0 ≤ c' → c' ≤ steps + 1 → mw_e val len x d (mw_sp val s) c' → Q (mw val len x h d (mw_sp val s) c') σ → ∀ r w, r = (mw_sp val s).2.1 → w = (mw_sp val s).2.2 → f_X10_follow_u154 Q (f_X10_follow_u54 Q (f_X10_follow_u108 Q p) (f_X10_follow_u175 Q p) p N) p σ x h w r s.1 c' 20000 steps := by
        intro c' a0 a1 he' k' r w er ew
        have go : ∀ y, y = (mw_sp val s).1 → f_X10_follow_u54 Q (f_X10_follow_u108 Q p) (f_X10_follow_u175 Q p) p N σ x h w r y c' 20000 (steps + 1) := fun y ey => by
          rw [er, ew, ey]
          exact ih N (mw_sp val s) c' (steps + 1) he' hn a0 a1 (by omega) (by rw [f1]; split <;> omega) (by rw [f1]; split <;> omega) (by omega) k'
        rw [← ew] at f1
        unfold f_X10_follow_u154
        unfold f_X10_follow_u166
        refine ⟨fun z => ⟨mt_I (by omega) (by omega), fun y2 e2 => ⟨⟨by omega, by omega⟩, fun y3 e3 => ?_⟩⟩, fun z => ⟨mt_I (by omega) (by omega), fun y2 e2 => ⟨⟨by omega, by omega⟩, fun y3 e3 => ?_⟩⟩⟩
        · rw [e3]; exact go y2 (by rw [f1, if_pos z]; exact e2)
        · rw [e3]; exact go y2 (by rw [f1, if_neg z]; exact e2)
      have MT : (s.2.1 = y7 ∨ s.2.1 = y7 + 1) → f_X10_follow_u102 Q (f_X10_follow_u54 Q (f_X10_follow_u108 Q p) (f_X10_follow_u175 Q p) p N) (f_X10_follow_u108 Q p) p σ x h s.2.2 s.2.1 s.1 c 20000 steps y7 := by
        intro hi
        have hon : mw_on val s := by unfold mw_on; rw [← e7]; exact hi
        rw [if_pos hi] at k f3
        unfold f_X10_follow_u102
        refine ⟨fun ne => ⟨⟨by omega, by omega⟩, fun y2 e2 => ⟨mt_I (by omega) (by omega), mt_I (by omega) (by omega), mt_I (by omega) (by omega), fun y6 e6 => ⟨by omega, by omega, ?_⟩⟩⟩, fun eq => ?_⟩
        · rw [if_neg ne] at k
          have he' : mw_e val len x d (mw_sp val s) (c + 1) := by
            rcases he with z | z | z
            · exact absurd z ei
            · exact z.2.resolve_left ne
            · exact absurd hon z.1
          rw [ev s.1 (by omega) (by omega), tm]
          subst e2
          have er : y6 = (mw_sp val s).2.1 := by
            rw [f2]
            by_cases z : s.2.1 = y7
            · rw [if_pos z]; omega
            · rw [if_neg z, if_pos (hi.resolve_left z)]; omega
          have go := MV (c + 1) (by omega) (by omega) he' k y6
          refine fun _ => ⟨by omega, mt_I (by omega) (by omega), fun z => ?_, fun z => ?_⟩
          · rw [if_neg z] at f3
            unfold f_X10_follow_u144 f_X10_follow_u152
            exact ⟨fun y => go 0 er (by omega), fun y => go 1 er (by omega)⟩
          · rw [if_pos z] at f3
            unfold f_X10_follow_u144 f_X10_follow_u152
            exact ⟨fun y => go 0 er (by omega), fun y => go 1 er (by omega)⟩
        · rw [if_pos eq] at k
          unfold f_X10_follow_u108; exact k
      refine ⟨fun z => MT (Or.inl z), fun z => ⟨mt_I (by omega) (by omega), fun z1 => ?_, fun z2 => MT (Or.inr z2)⟩⟩
      rw [if_neg (by omega)] at k f3
      rw [if_neg z, if_neg z1] at f2
      have he' : mw_e val len x d (mw_sp val s) c := by
        rcases he with y | y | y
        · exact absurd y ei
        · exact absurd y.1 (by unfold mw_on; rw [← e7]; omega)
        · exact y.2
      exact MV c c0 (by omega) he' k s.2.1 s.2.2 f2.symm f3.symm
  have S : ∀ (pos rail way : Int), mw_s h (pos, rail, way) → ((pos = 0 ∧ way = 1) ∨ (pos = len - 1 ∧ way = 0)) → Q (mw val len x h 20000 (pos, rail, way) 0) σ → f_X10_follow_u41 Q p σ x h way rail pos := by
    intro pos rail way hs st k
    unfold f_X10_follow_u41
    exact ⟨20001, L 20000 20001 (pos, rail, way) 0 0 (mw_ends h5 v l0 l1 hs st 0) hs (by omega) (by omega) (by omega) (by show -1 ≤ pos; omega) (by show pos ≤ 2000; omega) (by omega) k⟩
  unfold f_X10_follow f_X10_follow_u0
  unfold f_X10_follow_u10 f_X10_follow_u24
  rw [el]
  refine ⟨fun q => ⟨fun _ => ⟨mt_I (by omega) (by omega), fun _ _ => ⟨mt_I (by omega) (by omega), ?_⟩, fun c => absurd rfl c⟩, fun c => absurd rfl c⟩, fun q => ⟨fun c => absurd c (by omega), fun _ => ⟨fun c => absurd c (by omega), fun _ => ?_⟩⟩⟩
  · rw [if_neg (by omega), if_neg (by omega), if_neg (by omega)] at k
    exact S _ _ _ ⟨by show 0 ≤ e - h; omega, by show e - h < h; omega, Or.inl rfl⟩ (Or.inr ⟨rfl, rfl⟩) k
  · rw [if_pos (by omega), if_pos (by omega), if_pos (by omega)] at k
    exact S _ _ _ ⟨e0, by show e < h; omega, Or.inr rfl⟩ (Or.inl ⟨rfl, rfl⟩) k
/-- what is written out are signs -/
theorem mt_wr_v {t cx : Int → Int} {ex : Int → Int → Int} {n h w : Int} (n0 : 0 ≤ n) (h2 : 2 ≤ h) (ev : ∀ v, 0 ≤ v → v < w → mw_v h (ex v)) : ∀ (F : Nat) (i d need : Int) (U : Int → Int) (P : Int) (E : Int → Int), 0 ≤ i → i ≤ n → mt_gr t n h w F i d need = 0 → mw_v h E → mw_v h (mt_wr t n cx ex F i d U P E) := by
  have we : ∀ (s P : Int) (E : Int → Int), mw_v h E → mw_v h (mt_wre s P E) := fun s P E hE j => by unfold mt_wre; split <;> exact hE _
  have wa : ∀ (P : Int) (E e : Int → Int), mw_v h E → mw_v h e → mw_v h (mt_wra P E e) := fun P E e hE he j => by unfold mt_wra; split; exact hE _; exact he _
  intro F
  induction F with
  | zero => intro i d need U P E _ _ _ hE; exact hE
  | succ F ih =>
    intro i d need U P E i0 i1 g hE
    unfold mt_wr
    rcases mt_gr_c n0 i0 g with z | z | z | z | z
    · rw [if_pos z.1]; exact hE
    · rw [if_neg (by omega), if_pos z.2.1]; exact ih _ _ 1 _ _ _ (by omega) (by omega) z.2.2.2 hE
    · obtain ⟨z1, z2, z3, z4, z5, z6⟩ := z
      have r := mt_tn_r (t := t) (n := n) (i := i + 1) (by omega)
      rw [if_neg (by omega), if_neg (by omega), if_pos z2]; exact ih _ _ 0 _ _ _ (by omega) r.2 z6 (we _ _ _ hE)
    · obtain ⟨z1, z2, z3, z4, z5, z6, z7, z8⟩ := z
      have r := mt_tn_r (t := t) (n := n) (i := i + 2) (by omega)
      rw [if_neg (by omega), if_neg (by omega), if_neg (by omega), if_pos z2]; exact ih _ _ 0 _ _ _ (by omega) r.2 z8 (we _ _ _ (wa _ _ _ hE (fun j => by show 0 ≤ mt_wsg t i ∧ mt_wsg t i ≤ _; unfold mt_wsg; split <;> omega)))
    · obtain ⟨z1, z2, z3, z4, z5, z6⟩ := z
      have r := mt_tn_r (t := t) (n := n) (i := i + 1) (by omega)
      rw [if_neg (by omega), if_neg (by omega), if_neg (by omega), if_neg (by omega)]; exact ih _ _ 0 _ _ _ (by omega) r.2 z6 (we _ _ _ (wa _ _ _ hE (ev _ (by omega) z4)))
theorem mt_ex_v {h : Int} {T : Int → Int → Int} {sz : Int → Int} (h2 : 2 ≤ h) : ∀ (w : Nat), w < 16 → (∀ v : Nat, v ≤ w → mt_good h v (T v) (sz v)) → mw_v h (mt_ex T sz w) := by
  intro w
  induction w using Nat.strongRecOn with
  | ind w ih =>
    intro hw hg
    have g := hg w (Nat.le_refl w)
    rw [mt_ex_e hw g]
    refine mt_wr_v (h := h) (w := w) (by have := g.1; omega) h2 (fun v v0 v1 => ?_) _ _ _ 1 _ _ _ (Int.le_refl 0) (by have := g.1; omega) g.2.2.2 (fun j => by show (0 : Int) ≤ 0 ∧ (0 : Int) ≤ _; omega)
    have := ih v.toNat (by omega) (by omega) (fun u hu => hg u (by omega))
    rw [show ((v.toNat : Nat) : Int) = v by omega] at this
    exact this
