def mt_one (_ : Int) : Int := 1
def mt_mst : Int := 1000000000000
theorem s_makes {Q : ml_St → Prop} {τ0 : ml_St} {w n h : Int} {mk : Int → Int → Int} {T : Int → Int} (w0 : 0 ≤ w) (w1 : w < 16) (h2 : 2 ≤ h) (h5 : h ≤ 5) (n0 : 0 ≤ n) (n1 : n ≤ 100) (th : τ0 215 2 = h) (en : τ0 219 w = n) (tI : ∀ j, 0 ≤ j → j < n → ml_I8 (τ0 218 (100 * w + j))) (g : mt_gr (fun j => τ0 218 (100 * w + j)) n h w (n.toNat + 1) 0 0 1 = 0)
    (wm : ∀ v, 0 ≤ v → v < w → mt_M h (mk v) ∧ mt_ok h (mk v) ∧ 0 ≤ T v ∧ ∃ x, mt_mv h τ0 v x ∧ mt_M h x ∧ (T v ≤ mt_mst → mt_weq h x (mk v)))
    (k : ∀ τ r, mt_fp 19 (fun m => m = w ∨ 16 ≤ m) τ0 (ml_up τ 215 20 (τ0 215 20)) → τ 215 20 = w → mt_mv h τ w r → mt_M h r → (mt_ctw (fun j => τ0 218 (100 * w + j)) n mt_one T ≤ mt_mst → mt_weq h r (mt_wo (fun j => τ0 218 (100 * w + j)) n h mk)) → Q τ) : f_X12_makes τ0 w Q := by
  generalize ht : (fun j => τ0 218 (100 * w + j)) = t at *
  have htj : ∀ j, τ0 218 (100 * w + j) = t j := fun j => by rw [← ht]
  have uc := fun (j : Int) (hj : 0 ≤ j) => mt_u_c (t := t) (n := n) (i := j) (fun c => by rw [← htj]; exact tI j hj c)
  -- τ1: the store with the word in readWord
  generalize hτ1 : ml_up τ0 215 20 w = τ1
  have q1 : ∀ j, j ≠ 215 → τ1 j = τ0 j := fun j hj => by rw [← hτ1, ml_up_k hj]
  have q2 : τ1 215 2 = h := by rw [← hτ1, ml_up_i (by omega), th]
  have q20 : τ1 215 20 = w := by rw [← hτ1, ml_up_same]
  have back : ∀ τ, mt_fp 19 (fun m => m = w ∨ 16 ≤ m) τ1 τ → mt_fp 19 (fun m => m = w ∨ 16 ≤ m) τ0 (ml_up τ 215 20 (τ0 215 20)) := by
    intro τ f
    refine ⟨fun k h1 h3 h4 h6 h7 h8 h9 => by rw [ml_up_k h1, f.1 k h1 h3 h4 h6 h7 h8 h9, q1 k h1], fun b hb hb2 => ?_, fun m hm => ?_⟩
    · by_cases c : b = 20
      · rw [c, ml_up_same]
      · rw [ml_up_i c, f.2.1 b hb hb2, ← hτ1, ml_up_i c]
    · have := f.2.2 m hm
      rw [q1 227 (by omega), q1 228 (by omega), q1 229 (by omega), q1 230 (by omega), q1 231 (by omega)] at this
      rw [ml_up_k (show (227:Int) ≠ 215 by omega), ml_up_k (show (228:Int) ≠ 215 by omega), ml_up_k (show (229:Int) ≠ 215 by omega), ml_up_k (show (230:Int) ≠ 215 by omega), ml_up_k (show (231:Int) ≠ 215 by omega)]
      exact this
  -- the end
  have KE : ∀ (τ : ml_St) (a l : Int → Int), mt_fp 19 (fun m => m = w ∨ 16 ≤ m) τ1 τ → mt_mv h τ 16 a → mt_mv h τ 17 l → mt_M h a → mt_M h l → (mt_ctw t n mt_one T ≤ mt_mst → mt_weq h (mt_both h a l) (mt_wo t n h mk)) → f_X12_makes_u224 Q τ w := by
    intro τ a l f wa wl ha hl hq
    have th1 : τ 215 2 = h := by rw [f.2.1 2 (by omega) (by omega), q2]
    unfold f_X12_makes_u224
    refine s_goesOn h2 h5 (by omega) (by omega) th1 ha hl wa wl (fun σ1 f1 w1' => ?_)
    have f1' := mt_fp_t f (mt_fp_w (P' := fun m => m = w ∨ 16 ≤ m) (fun m hm => Or.inr (by omega)) (mt_fp_q f1))
    refine s_copies h2 h5 ⟨by omega, by omega⟩ ⟨w0, by omega⟩ (by omega) (by rw [f1'.2.1 2 (by omega) (by omega), q2]) w1' (fun σ2 f2 w2 => ?_)
    have f2' := mt_fp_t f1' (mt_fp_mf (P := fun m => m = w ∨ 16 ≤ m) (Or.inl rfl) f2)
    exact k σ2 _ (back σ2 f2') (by rw [f2'.2.1 20 (by omega) (by omega), q20]) w2 (mt_both_M h5 ha hl) hq
  have L : ∀ (F N : Nat) (i d need : Int) (S : Int → Int → Int) (C : Int → Int) (a l : Int → Int) (τ : ml_St), mt_fp 19 (fun m => m = w ∨ 16 ≤ m) τ1 τ → τ 215 19 = i → 0 ≤ i → i ≤ n → 0 ≤ d → d ≤ 6 → n - i < F → n - i + 1 < N →
      (∀ k, 0 ≤ k → k ≤ d → mt_M h (S k) ∧ mt_ok h (S k) ∧ 0 ≤ C k) → (∀ k, 0 ≤ k → k < d → ∃ x, mt_mv h τ (16 + 2 * k) x ∧ mt_M h x ∧ (C k ≤ mt_mst → mt_weq h x (S k))) →
      mt_mv h τ (16 + 2 * d) a → mt_mv h τ (17 + 2 * d) l → mt_M h a → mt_M h l → (C d ≤ mt_mst → mt_weq h (mt_both h a l) (S d)) →
      mt_gr t n h w F i d need = 0 → mt_we t n h mk F i d S = mt_wo t n h mk → mt_ct t n mt_one T F i d C = mt_ctw t n mt_one T → f_X12_makes_u24 Q (f_X12_makes_u224 Q) N τ w d := by
    intro F
    induction F with
    | zero => intro N i d need S C a l τ f e19 i0 i1 d0 d6 hF; omega
    | succ F ih =>
      -- behind an item
      have AF : ∀ (N : Nat) (i d : Int) (S : Int → Int → Int) (C : Int → Int) (a l : Int → Int) (Sd it : Int → Int) (c0 x : Int) (τ : ml_St), mt_fp 19 (fun m => m = w ∨ 16 ≤ m) τ1 τ → τ 215 19 = i → 0 ≤ i → i ≤ n → 0 ≤ d → d ≤ 6 → mt_tf t n i = 0 → n - i < F → n - i + 1 < N →
          (∀ k, 0 ≤ k → k < d → mt_M h (S k) ∧ mt_ok h (S k) ∧ 0 ≤ C k) → (∀ k, 0 ≤ k → k < d → ∃ x, mt_mv h τ (16 + 2 * k) x ∧ mt_M h x ∧ (C k ≤ mt_mst → mt_weq h x (S k))) →
          mt_M h Sd → mt_ok h Sd → mt_M h it → mt_ok h it → 0 ≤ c0 → 0 ≤ x → mt_mv h τ (16 + 2 * d) a → mt_mv h τ (17 + 2 * d) l → mt_M h a → mt_M h l → (c0 ≤ mt_mst → mt_weq h a Sd) → (x ≤ mt_mst → mt_weq h l it) →
          mt_gr t n h w F (mt_tn t n i) d 0 = 0 → mt_we t n h mk F (mt_tn t n i) d (mt_set S d (mt_both h Sd (mt_rep h (mt_tm t n i) it))) = mt_wo t n h mk → mt_ct t n mt_one T F (mt_tn t n i) d (mt_st C d (c0 + mt_tm t n i * x)) = mt_ctw t n mt_one T → f_X12_makes_u24 Q (f_X12_makes_u224 Q) N τ w d := by
        intro N i d S C a l Sd it c0 x τ f e19 i0 i1 d0 d6 gt hF hN hS lo hSd oSd hit oit c00 x0 wa wl ha hl qa ql g' hw hc
        have rt := mt_tm_r (t := t) (n := n) (i := i) i0 gt
        have rn := mt_tn_r (t := t) (n := n) (i := i) i1
        have tx := Int.mul_nonneg rt.1 x0
        have hS' : ∀ k, 0 ≤ k → k ≤ d → mt_M h (mt_set S d (mt_both h Sd (mt_rep h (mt_tm t n i) it)) k) ∧ mt_ok h (mt_set S d (mt_both h Sd (mt_rep h (mt_tm t n i) it)) k) ∧ 0 ≤ mt_st C d (c0 + mt_tm t n i * x) k := by
          intro k k0 k1
          unfold mt_set mt_st
          by_cases q : k = d
          · rw [if_pos q, if_pos q]; exact ⟨mt_both_M h5 hSd (mt_rep_M h5 hit), mt_both_ok h5 oSd.2.2.1, by omega⟩
          · rw [if_neg q, if_neg q]; exact hS k k0 (by omega)
        have lo' : ∀ σ : ml_St, (∀ k, 0 ≤ k → k < d → ∃ x, mt_mv h σ (16 + 2 * k) x ∧ mt_M h x ∧ (C k ≤ mt_mst → mt_weq h x (S k))) → ∀ k, 0 ≤ k → k < d → ∃ y, mt_mv h σ (16 + 2 * k) y ∧ mt_M h y ∧ (mt_st C d (c0 + mt_tm t n i * x) k ≤ mt_mst → mt_weq h y (mt_set S d (mt_both h Sd (mt_rep h (mt_tm t n i) it)) k)) := by
          intro σ lo k k0 k1
          unfold mt_set mt_st
          rw [if_neg (by omega), if_neg (by omega)]
          exact lo k k0 k1
        by_cases s : i < n ∧ t i = 42
        · obtain ⟨N, rfl⟩ : ∃ N', N = N' + 1 := ⟨N - 1, by omega⟩
          obtain ⟨m, m1, m2, y1, y2, y3, y4, y5⟩ := mt_tf_0 i0 gt s
          have u42 : mt_u t n i = 42 := by
            have := uc i i0
            have e : mt_c t n i = 42 := by unfold mt_c; rw [if_pos s.1]; exact s.2
            omega
          have f218 : ∀ j, τ 218 (100 * w + j) = t j := fun j => by rw [f.1 218 (by omega) (by omega) (by omega) (by omega) (by omega) (by omega) (by omega), q1 218 (by omega), htj]
          have f219 : τ 219 w = n := by rw [f.1 219 (by omega) (by omega) (by omega) (by omega) (by omega) (by omega) (by omega), q1 219 (by omega), en]
          have e20 : τ 215 20 = w := by rw [f.2.1 20 (by omega) (by omega), q20]
          unfold f_X12_makes_u24
          rw [e19, f219]
          refine fun _ => ⟨w0, w1, fun _ => ⟨fun c => absurd c (by omega), fun _ => ?_⟩⟩
          refine s_read w0 w1 i0 n1 e19 e20 f219 ?_
          rw [show (fun j => τ 218 (100 * w + j)) = t by funext j; exact f218 j, u42, e19]
          refine fun _ _ => ⟨mt_I (by omega) (by omega), fun σ7 g7 => ⟨fun c => absurd rfl c, fun _ => ?_⟩⟩
          have k7 : ∀ j, j ≠ 215 → σ7 j = τ j := fun j hj => by rw [g7, ml_up_k hj]
          refine s_readNumber (i := i + 1) (m := m) w0 w1 (by omega) n1 (by rw [g7, ml_up_i (by omega), e20]) (by rw [g7, ml_up_same]) (by rw [k7 219 (by omega), f219]) m2 (by omega) (fun j j0 j1 => by rw [k7 218 (by omega), f218, ← htj]; exact tI j j0 j1) (fun k hk => by rw [k7 218 (by omega), f218]; exact y4 k hk) (fun hk => by rw [k7 218 (by omega), f218]; exact y5 hk) ?_
          rw [show (fun j => σ7 218 (100 * w + j)) = t by funext j; rw [k7 218 (by omega)]; exact f218 j, ← y3, g7, ml_up_up, ← y1]
          have f8 : mt_fp 19 (fun m => m = w ∨ 16 ≤ m) τ (ml_up τ 215 19 (mt_tn t n i)) := mt_fp_19
          have f8' : mt_fp 19 (fun _ => False) τ (ml_up τ 215 19 (mt_tn t n i)) := mt_fp_19
          refine fun _ => ⟨mt_I (by omega) (by omega), mt_I (by omega) (by omega), ?_⟩
          refine s_repeats h2 h5 (by omega) (by omega) rt.1 rt.2 (by rw [ml_up_i (by omega), f.2.1 2 (by omega) (by omega), q2]) hl (mt_mv_p h5 f8' (by simp) wl) (fun σ37 f37 w37 => ?_)
          have fR : mt_fp 19 (fun x => x = 17 + 2 * d ∨ x = 60 ∨ x = 61 ∨ x = 62) τ σ37 := mt_fp_t mt_fp_19 (mt_fp_q f37)
          have f' : mt_fp 19 (fun m => m = w ∨ 16 ≤ m) τ1 σ37 := mt_fp_t f (mt_fp_w (fun m hm => Or.inr (by omega)) fR)
          have ql' : mt_tm t n i * x ≤ mt_mst → mt_weq h (mt_rp h 40 (mt_tm t n i) (mt_str h) l) (mt_rep h (mt_tm t n i) it) := by
            intro hc
            unfold mt_rep
            by_cases o : mt_tm t n i = 1
            · rw [if_pos o, o, mt_rp_1]
              rw [o, Int.one_mul] at hc
              exact mt_weq_t (mt_both_c (by omega) h5 (mt_str_M h5) hl mt_weq_r (ql hc)) (mt_id h2 h5 hit oit)
            · rw [if_neg o]
              by_cases z : mt_tm t n i = 0
              · rw [z, mt_rp_0, mt_rp_0]; exact mt_weq_r
              · have : x ≤ mt_tm t n i * x := by
                  have := Int.mul_le_mul_of_nonneg_right (show (1 : Int) ≤ mt_tm t n i by omega) x0
                  omega
                exact mt_rp_c (by omega) h5 _ _ _ _ _ _ (mt_str_M h5) hl mt_weq_r (ql (by omega))
          refine ih N (mt_tn t n i) d 0 _ _ a (mt_rp h 40 (mt_tm t n i) (mt_str h) l) σ37 f' ?_ (by omega) rn.2 d0 d6 (by omega) (by omega) hS' (lo' σ37 (fun k k0 k1 => ?_)) (mt_mv_p h5 fR (by omega) wa) w37 ha (mt_rp_M h5 _ _ _ _ (mt_str_M h5) hl) ?_ g' hw hc
          · rw [f37.2.1 19 (by omega) (by omega), ml_up_same]
          · obtain ⟨x, x1, x2, x3⟩ := lo k k0 k1
            exact ⟨x, mt_mv_p h5 fR (by omega) x1, x2, x3⟩
          · unfold mt_set mt_st
            rw [if_pos rfl, if_pos rfl]
            intro hcm
            exact mt_both_c (by omega) h5 ha (mt_rp_M h5 _ _ _ _ (mt_str_M h5) hl) (qa (by omega)) (ql' (by omega))
        · have y1 : mt_tn t n i = i := by unfold mt_tn; rw [if_neg s]
          have y3 : mt_tm t n i = 1 := by unfold mt_tm; rw [if_neg s]
          rw [y1] at g' hw hc
          refine ih N i d 0 _ _ a l τ f e19 i0 i1 d0 d6 hF hN hS' (lo' τ lo) wa wl ha hl ?_ g' hw hc
          unfold mt_set mt_st
          rw [if_pos rfl, if_pos rfl, y3, Int.one_mul]
          intro hcm
          unfold mt_rep
          rw [if_pos rfl]
          exact mt_both_c (by omega) h5 ha hl (qa (by omega)) (ql (by omega))
      sorry
  sorry
