def mt_st (S : Int → Int) (d v : Int) : Int → Int := fun k => if k = d then v else S k
/-- how many signs of a kind a TEXT stands for, exactly -/
def mt_ct (t : Int → Int) (n : Int) (sg cx : Int → Int) : Nat → Int → Int → (Int → Int) → Int
  | 0, _, _, S => S 0
  | F + 1, i, d, S =>
    if n ≤ i then S 0
    else if t i = 40 then mt_ct t n sg cx F (i + 1) (d + 1) (mt_st S (d + 1) 0)
    else if t i = 41 then mt_ct t n sg cx F (mt_tn t n (i + 1)) (d - 1) (mt_st S (d - 1) (S (d - 1) + mt_tm t n (i + 1) * S d))
    else if t i = 120 ∨ t i = 117 then mt_ct t n sg cx F (mt_tn t n (i + 2)) d (mt_st S d (S d + mt_tm t n (i + 2) * sg (t i)))
    else mt_ct t n sg cx F (mt_tn t n (i + 1)) d (mt_st S d (S d + mt_tm t n (i + 1) * cx (t i - 65)))
def mt_sx (c : Int) : Int := if c = 120 then 1 else 0
def mt_su (c : Int) : Int := if c = 117 then 1 else 0
def mt_ctw (t : Int → Int) (n : Int) (sg cx : Int → Int) : Int := mt_ct t n sg cx (n.toNat + 1) 0 0 (fun _ => 0)
theorem mt_ct_0 {t : Int → Int} {n h w : Int} {sg cx : Int → Int} (n0 : 0 ≤ n) (s0 : ∀ c, 0 ≤ sg c) (c0 : ∀ v, 0 ≤ v → v < w → 0 ≤ cx v) : ∀ (F : Nat) (i d need : Int) (S : Int → Int), 0 ≤ i → i ≤ n → 0 ≤ d → (∀ k, 0 ≤ k → k ≤ d → 0 ≤ S k) → mt_gr t n h w F i d need = 0 → 0 ≤ mt_ct t n sg cx F i d S := by
  intro F
  induction F with
  | zero => intro i d need S i0 i1 d0 hS _; exact hS 0 (by omega) d0
  | succ F ih =>
    intro i d need S i0 i1 d0 hS g
    unfold mt_ct
    rcases mt_gr_c n0 i0 g with z | z | z | z | z
    · rw [if_pos z.1]; exact hS 0 (by omega) d0
    · rw [if_neg (by omega), if_pos z.2.1]
      refine ih _ _ 1 _ (by omega) (by omega) (by omega) (fun k k0 k1 => ?_) z.2.2.2
      unfold mt_st; split
      · omega
      · exact hS k k0 (by omega)
    · obtain ⟨z1, z2, z3, z4, z5, z6⟩ := z
      rw [if_neg (by omega), if_neg (by omega), if_pos z2]
      have r := mt_tn_r (t := t) (n := n) (i := i + 1) (by omega)
      have rt := mt_tm_r (t := t) (n := n) (i := i + 1) (by omega) z5
      refine ih _ _ 0 _ (by omega) r.2 (by omega) (fun k k0 k1 => ?_) z6
      unfold mt_st; split
      · have := hS (d - 1) (by omega) (by omega)
        have := Int.mul_nonneg rt.1 (hS d d0 (by omega))
        omega
      · exact hS k k0 (by omega)
    · obtain ⟨z1, z2, z3, z4, z5, z6, z7, z8⟩ := z
      rw [if_neg (by omega), if_neg (by omega), if_neg (by omega), if_pos z2]
      have r := mt_tn_r (t := t) (n := n) (i := i + 2) (by omega)
      have rt := mt_tm_r (t := t) (n := n) (i := i + 2) (by omega) z7
      refine ih _ _ 0 _ (by omega) r.2 d0 (fun k k0 k1 => ?_) z8
      unfold mt_st; split
      · have := hS d d0 (by omega)
        have := Int.mul_nonneg rt.1 (s0 (t i))
        omega
      · exact hS k k0 (by omega)
    · obtain ⟨z1, z2, z3, z4, z5, z6⟩ := z
      rw [if_neg (by omega), if_neg (by omega), if_neg (by omega), if_neg (by omega)]
      have r := mt_tn_r (t := t) (n := n) (i := i + 1) (by omega)
      have rt := mt_tm_r (t := t) (n := n) (i := i + 1) (by omega) z5
      refine ih _ _ 0 _ (by omega) r.2 d0 (fun k k0 k1 => ?_) z6
      unfold mt_st; split
      · have := hS d d0 (by omega)
        have := Int.mul_nonneg rt.1 (c0 (t i - 65) (by omega) z4)
        omega
      · exact hS k k0 (by omega)
def mt_fc (τ0 τ : ml_St) : Prop := (∀ j, j ≠ 215 → j ≠ 223 → j ≠ 224 → j ≠ 225 → j ≠ 226 → τ j = τ0 j) ∧ (∀ b, b ≠ 19 → b ≠ 20 → τ 215 b = τ0 215 b)
/-- below depth d the sums stand for S -/
def mt_lo (A S : Int → Int) (d : Int) : Prop := ∀ k, 0 ≤ k → k < d → 0 ≤ S k ∧ A k = min mt_top (S k)
theorem s_counts {Q : ml_St → Prop} {τ0 : ml_St} {w n h : Int} {cx cu : Int → Int} (w0 : 0 ≤ w) (w1 : w < 16) (h5 : h ≤ 5) (n0 : 0 ≤ n) (n1 : n ≤ 100) (en : τ0 219 w = n) (tI : ∀ j, 0 ≤ j → j < n → ml_I8 (τ0 218 (100 * w + j))) (g : mt_gr (fun j => τ0 218 (100 * w + j)) n h w (n.toNat + 1) 0 0 1 = 0) (wc : ∀ v, 0 ≤ v → v < w → 0 ≤ cx v ∧ τ0 221 v = min mt_top (cx v) ∧ 0 ≤ cu v ∧ τ0 222 v = min mt_top (cu v))
    (k : ∀ τ, (∀ j, j ≠ 215 → j ≠ 221 → j ≠ 222 → j ≠ 223 → j ≠ 224 → j ≠ 225 → j ≠ 226 → τ j = τ0 j) → (∀ b, b ≠ 19 → b ≠ 20 → τ 215 b = τ0 215 b) → (∀ v, v ≠ w → τ 221 v = τ0 221 v ∧ τ 222 v = τ0 222 v) → τ 221 w = min mt_top (mt_ctw (fun j => τ0 218 (100 * w + j)) n mt_sx cx) → τ 222 w = min mt_top (mt_ctw (fun j => τ0 218 (100 * w + j)) n mt_su cu) → Q τ) : f_X12_counts τ0 w Q := by
  generalize ht : (fun j => τ0 218 (100 * w + j)) = t at *
  have htj : ∀ j, τ0 218 (100 * w + j) = t j := fun j => by rw [← ht]
  have uc := fun (j : Int) (hj : 0 ≤ j) => mt_u_c (t := t) (n := n) (i := j) (fun c => by rw [← htj]; exact tI j hj c)
  -- the end
  have KE : ∀ (τ : ml_St) (a l au lu : Int), mt_fc τ0 τ → 0 ≤ a → 0 ≤ l → 0 ≤ au → 0 ≤ lu → τ 223 0 = min mt_top a → τ 225 0 = min mt_top l → τ 224 0 = min mt_top au → τ 226 0 = min mt_top lu → a + l = mt_ctw t n mt_sx cx → au + lu = mt_ctw t n mt_su cu → f_X12_counts_u347 Q τ w := by
    intro τ a l au lu f a0 l0 au0 lu0 e1 e2 e3 e4 e5 e6
    unfold f_X12_counts_u347
    refine ⟨by omega, by omega, fun _ => ⟨by omega, by omega, fun _ => s_plus e1 e2 a0 l0 (fun _ _ => ⟨w0, w1, fun σ4 g4 => ⟨by omega, by omega, ?_⟩⟩)⟩⟩
    have f4 : ∀ j, j ≠ 221 → σ4 j = τ j := fun j hj => by rw [g4, ml_up_k hj]
    rw [f4 224 (by omega), f4 226 (by omega)]
    refine fun _ => ⟨by omega, by omega, fun _ => s_plus e3 e4 au0 lu0 (fun _ _ => ⟨w0, w1, fun σ8 g8 => ?_⟩)⟩
    have f8 : ∀ j, j ≠ 221 → j ≠ 222 → σ8 j = τ j := fun j hj hj2 => by rw [g8, ml_up_k hj2, f4 j hj]
    refine k σ8 (fun j h1 h2 h3 h4 h5 h6 h7 => by rw [f8 j h2 h3, f.1 j h1 h4 h5 h6 h7]) (fun b h1 h2 => by rw [f8 215 (by omega) (by omega), f.2 b h1 h2]) (fun v hv => ?_) ?_ ?_
    · rw [g8, ml_up_k (by omega), ml_up_i hv, g4, ml_up_i hv, ml_up_k (by omega), f.1 221 (by omega) (by omega) (by omega) (by omega) (by omega), f.1 222 (by omega) (by omega) (by omega) (by omega) (by omega)]
      exact ⟨rfl, rfl⟩
    · rw [g8, ml_up_k (by omega), g4, ml_up_same, e5]
    · rw [g8, ml_up_same, e6]
  have L : ∀ (F N : Nat) (i d need : Int) (S SU : Int → Int) (a l au lu : Int) (τ : ml_St), mt_fc τ0 τ → τ 215 20 = w → τ 215 19 = i → 0 ≤ i → i ≤ n → 0 ≤ d → d ≤ 6 → n - i < F → n - i + 1 < N → mt_lo (τ 223) S d → mt_lo (τ 224) SU d → 0 ≤ a → 0 ≤ l → 0 ≤ au → 0 ≤ lu → a + l = S d → au + lu = SU d → τ 223 d = min mt_top a → τ 225 d = min mt_top l → τ 224 d = min mt_top au → τ 226 d = min mt_top lu → mt_gr t n h w F i d need = 0 → mt_ct t n mt_sx cx F i d S = mt_ctw t n mt_sx cx → mt_ct t n mt_su cu F i d SU = mt_ctw t n mt_su cu → f_X12_counts_u40 Q (f_X12_counts_u347 Q) N τ w d := by
    intro F
    induction F with
    | zero => intro N i d need S SU a l au lu τ f e20 e19 i0 i1 d0 d6 hF; omega
    | succ F ih =>
      -- behind an item
      have AF : ∀ (N : Nat) (i d : Int) (S SU : Int → Int) (a l au lu : Int) (τ : ml_St), mt_fc τ0 τ → τ 215 20 = w → τ 215 19 = i → 0 ≤ i → i ≤ n → 0 ≤ d → d ≤ 6 → mt_tf t n i = 0 → n - i < F → n - i + 1 < N → mt_lo (τ 223) S d → mt_lo (τ 224) SU d → 0 ≤ a → 0 ≤ l → 0 ≤ au → 0 ≤ lu → τ 223 d = min mt_top a → τ 225 d = min mt_top l → τ 224 d = min mt_top au → τ 226 d = min mt_top lu → mt_gr t n h w F (mt_tn t n i) d 0 = 0 → mt_ct t n mt_sx cx F (mt_tn t n i) d (mt_st S d (a + mt_tm t n i * l)) = mt_ctw t n mt_sx cx → mt_ct t n mt_su cu F (mt_tn t n i) d (mt_st SU d (au + mt_tm t n i * lu)) = mt_ctw t n mt_su cu → f_X12_counts_u40 Q (f_X12_counts_u347 Q) N τ w d := by
        intro N i d S SU a l au lu τ f e20 e19 i0 i1 d0 d6 gt hF hN lo lou a0 l0 au0 lu0 eA eL eAU eLU g' hx hu
        have rt := mt_tm_r (t := t) (n := n) (i := i) i0 gt
        have rn := mt_tn_r (t := t) (n := n) (i := i) i1
        have lo' : mt_lo (τ 223) (mt_st S d (a + mt_tm t n i * l)) d := fun k k0 k1 => by unfold mt_st; rw [if_neg (by omega)]; exact lo k k0 k1
        have lou' : mt_lo (τ 224) (mt_st SU d (au + mt_tm t n i * lu)) d := fun k k0 k1 => by unfold mt_st; rw [if_neg (by omega)]; exact lou k k0 k1
        have tl := Int.mul_nonneg rt.1 l0
        have tlu := Int.mul_nonneg rt.1 lu0
        by_cases s : i < n ∧ t i = 42
        · obtain ⟨N, rfl⟩ : ∃ N', N = N' + 1 := ⟨N - 1, by omega⟩
          obtain ⟨m, m1, m2, q1, q2, q3, q4, q5⟩ := mt_tf_0 i0 gt s
          have u42 : mt_u t n i = 42 := by
            have := uc i i0
            have e : mt_c t n i = 42 := by unfold mt_c; rw [if_pos s.1]; exact s.2
            omega
          have f218 : ∀ j, τ 218 (100 * w + j) = t j := fun j => by rw [f.1 218 (by omega) (by omega) (by omega) (by omega) (by omega), htj]
          have f219 : τ 219 w = n := by rw [f.1 219 (by omega) (by omega) (by omega) (by omega) (by omega), en]
          unfold f_X12_counts_u40
          rw [e19, f219]
          refine fun _ => ⟨w0, w1, fun _ => ⟨fun c => absurd c (by omega), fun _ => ?_⟩⟩
          refine s_read w0 w1 i0 n1 e19 e20 f219 ?_
          rw [show (fun j => τ 218 (100 * w + j)) = t by funext j; exact f218 j, u42, e19]
          refine fun _ _ => ⟨mt_I (by omega) (by omega), fun σ7 g7 => ⟨fun c => absurd rfl c, fun _ => ?_⟩⟩
          have k7 : ∀ j, j ≠ 215 → σ7 j = τ j := fun j hj => by rw [g7, ml_up_k hj]
          have b7 : ∀ b, b ≠ 19 → σ7 215 b = τ 215 b := fun b hb => by rw [g7, ml_up_i hb]
          refine s_readNumber (i := i + 1) (m := m) w0 w1 (by omega) n1 (by rw [b7 20 (by omega), e20]) (by rw [g7, ml_up_same]) (by rw [k7 219 (by omega), f219]) m2 (by omega) (fun j j0 j1 => by rw [k7 218 (by omega), f218, ← htj]; exact tI j j0 j1) (fun k hk => by rw [k7 218 (by omega), f218]; exact q4 k hk) (fun hk => by rw [k7 218 (by omega), f218]; exact q5 hk) ?_
          rw [show (fun j => σ7 218 (100 * w + j)) = t by funext j; rw [k7 218 (by omega)]; exact f218 j, ← q3, g7, ml_up_up, ← q1]
          have k8 : ∀ j, j ≠ 215 → ml_up τ 215 19 (mt_tn t n i) j = τ j := fun j hj => ml_up_k hj
          refine fun _ => ⟨d0, by omega, ?_⟩
          rw [k8 225 (by omega)]
          refine fun _ => s_times eL l0 rt.1 (fun _ _ => ⟨d0, by omega, fun σ44 g44 => ⟨d0, by omega, ?_⟩⟩)
          rw [show σ44 226 = τ 226 by rw [g44, ml_up_k (by omega), k8 226 (by omega)]]
          refine fun _ => s_times eLU lu0 rt.1 (fun _ _ => ⟨d0, by omega, fun σ47 g47 => ?_⟩)
          have k9 : ∀ j, j ≠ 215 → j ≠ 225 → j ≠ 226 → σ47 j = τ j := fun j h1 h2 h3 => by rw [g47, ml_up_k h3, g44, ml_up_k h2, k8 j h1]
          have b9 : σ47 215 = ml_up τ 215 19 (mt_tn t n i) 215 := by rw [g47, ml_up_k (by omega), g44, ml_up_k (by omega)]
          refine ih N (mt_tn t n i) d 0 _ _ a (mt_tm t n i * l) au (mt_tm t n i * lu) σ47 ⟨fun j h1 h2 h3 h4 h5 => by rw [k9 j h1 h4 h5, f.1 j h1 h2 h3 h4 h5], fun b h1 h2 => by rw [b9, ml_up_i h1, f.2 b h1 h2]⟩ ?_ ?_ (by omega) rn.2 d0 d6 (by omega) (by omega) ?_ ?_ a0 tl au0 tlu ?_ ?_ ?_ ?_ ?_ ?_ g' hx hu
          · rw [b9, ml_up_i (by omega), e20]
          · rw [b9, ml_up_same]
          · rw [k9 223 (by omega) (by omega) (by omega)]; exact lo'
          · rw [k9 224 (by omega) (by omega) (by omega)]; exact lou'
          · unfold mt_st; rw [if_pos rfl]
          · unfold mt_st; rw [if_pos rfl]
          · rw [k9 223 (by omega) (by omega) (by omega), eA]
          · rw [g47, ml_up_k (by omega), g44, ml_up_same]
          · rw [k9 224 (by omega) (by omega) (by omega), eAU]
          · rw [g47, ml_up_same]
        · have q1 : mt_tn t n i = i := by unfold mt_tn; rw [if_neg s]
          have q3 : mt_tm t n i = 1 := by unfold mt_tm; rw [if_neg s]
          rw [q1] at g' hx hu
          refine ih N i d 0 _ _ a l au lu τ f e20 e19 i0 i1 d0 d6 hF hN lo' lou' a0 l0 au0 lu0 ?_ ?_ eA eL eAU eLU g' hx hu
          · unfold mt_st; rw [if_pos rfl, q3, Int.one_mul]
          · unfold mt_st; rw [if_pos rfl, q3, Int.one_mul]
      intro N i d need S SU a l au lu τ f e20 e19 i0 i1 d0 d6 hF hN lo lou a0 l0 au0 lu0 eS eSU eA eL eAU eLU g hx hu
      obtain ⟨N, rfl⟩ : ∃ N', N = N' + 1 := ⟨N - 1, by omega⟩
      have f218 : ∀ j, τ 218 (100 * w + j) = t j := fun j => by rw [f.1 218 (by omega) (by omega) (by omega) (by omega) (by omega), htj]
      have f219 : τ 219 w = n := by rw [f.1 219 (by omega) (by omega) (by omega) (by omega) (by omega), en]
      unfold mt_ct at hx hu
      unfold f_X12_counts_u40
      rw [e19, f219]
      refine fun _ => ⟨w0, w1, fun _ => ⟨fun c => ?_, fun c => ?_⟩⟩
      · rw [if_pos c] at hx hu
        rcases mt_gr_c n0 i0 g with z | z | z | z | z
        · have d00 : d = 0 := z.2.2
          subst d00
          exact KE τ a l au lu f a0 l0 au0 lu0 eA eL eAU eLU (by rw [eS, hx]) (by rw [eSU, hu])
        all_goals omega
      rw [if_neg c] at hx hu
      refine s_read w0 w1 i0 n1 e19 e20 f219 ?_
      have ui := uc i i0
      have ci : mt_c t n i = t i := by unfold mt_c; rw [if_pos (by omega)]
      have uti : (t i = 40 ∨ t i = 41 ∨ t i = 120 ∨ t i = 117 ∨ (65 ≤ t i ∧ t i < 81)) ∧ mt_u t n i = t i := by
        rcases mt_gr_c n0 i0 g with z | z | z | z | z <;> constructor <;> omega
      obtain ⟨tk, eu⟩ := uti
      rw [show (fun j => τ 218 (100 * w + j)) = t by funext j; exact f218 j, eu, e19]
      refine fun _ _ => ⟨mt_I (by omega) (by omega), fun σ7 g7 => ⟨fun _ => ⟨d0, by omega, fun _ => ⟨d0, by omega, ?_⟩⟩, fun c42 => absurd c42 (by omega)⟩⟩
      have k7 : ∀ j, j ≠ 215 → σ7 j = τ j := fun j hj => by rw [g7, ml_up_k hj]
      refine fun _ => s_plus (by rw [k7 223 (by omega)]; exact eA) (by rw [k7 225 (by omega)]; exact eL) a0 l0 (fun _ _ => ⟨d0, by omega, fun σ12 g12 => ⟨d0, by omega, ?_⟩⟩)
      have k12 : ∀ j, j ≠ 215 → j ≠ 223 → σ12 j = τ j := fun j h1 h2 => by rw [g12, ml_up_k h2, k7 j h1]
      refine fun _ => ⟨d0, by omega, fun _ => s_plus (by rw [k12 224 (by omega) (by omega)]; exact eAU) (by rw [k12 226 (by omega) (by omega)]; exact eLU) au0 lu0 (fun _ _ => ⟨d0, by omega, fun σ16 g16 => ?_⟩)⟩
      rw [eS] at g12
      rw [eSU] at g16
      have k16 : ∀ j, j ≠ 215 → j ≠ 223 → j ≠ 224 → σ16 j = τ j := fun j h1 h2 h3 => by rw [g16, ml_up_k h3, k12 j h1 h2]
      have b16 : ∀ b, b ≠ 19 → σ16 215 b = τ 215 b := fun b hb => by rw [g16, ml_up_k (by omega), g12, ml_up_k (by omega), g7, ml_up_i hb]
      have r16 : σ16 215 19 = i + 1 := by rw [g16, ml_up_k (by omega), g12, ml_up_k (by omega), g7, ml_up_same]
      have A16 : σ16 223 d = min mt_top (S d) := by rw [g16, ml_up_k (by omega), g12, ml_up_same]
      have U16 : σ16 224 d = min mt_top (SU d) := by rw [g16, ml_up_same]
      have A16' : ∀ x, x ≠ d → σ16 223 x = τ 223 x := fun x hx => by rw [g16, ml_up_k (by omega), g12, ml_up_i hx, k7 223 (by omega)]
      have U16' : ∀ x, x ≠ d → σ16 224 x = τ 224 x := fun x hx => by rw [g16, ml_up_i hx, k12 224 (by omega) (by omega)]
      have f16 : mt_fc τ0 σ16 := ⟨fun j h1 h2 h3 h4 h5 => by rw [k16 j h1 h2 h3, f.1 j h1 h2 h3 h4 h5], fun b h1 h2 => by rw [b16 b h1, f.2 b h1 h2]⟩
      have lo16 : mt_lo (σ16 223) S (d + 1) := fun k k0 k1 => by
        by_cases q : k = d
        · rw [q]; exact ⟨by omega, A16⟩
        · rw [A16' k q]; exact lo k k0 (by omega)
      have lou16 : mt_lo (σ16 224) SU (d + 1) := fun k k0 k1 => by
        by_cases q : k = d
        · rw [q]; exact ⟨by omega, U16⟩
        · rw [U16' k q]; exact lou k k0 (by omega)
      have S0 : 0 ≤ S d := by omega
      have SU0 : 0 ≤ SU d := by omega
      have SGN : (t i = 120 ∨ t i = 117) → f_X12_counts_u267 Q (f_X12_counts_u40 Q (f_X12_counts_u347 Q) N) σ16 w d (t i) := by
        intro hc
        rcases mt_gr_c n0 i0 g with z | z | z | z | z
        · omega
        · omega
        · omega
        · obtain ⟨z1, z2, z3, z4, z5, z6, z7, z8⟩ := z
          rw [if_neg (by omega), if_neg (by omega), if_pos hc] at hx hu
          unfold f_X12_counts_u267
          rw [r16]
          refine fun _ => ⟨mt_I (by omega) (by omega), fun σ3 g3 => ?_⟩
          have go : ∀ s1 s2, s1 = mt_sx (t i) → s2 = mt_su (t i) → f_X12_counts_u344 Q (f_X12_counts_u40 Q (f_X12_counts_u347 Q) N) (ml_up (ml_up σ3 225 d s1) 226 d s2) w d := by
            intro s1 s2 e1 e2
            unfold f_X12_counts_u344
            have sx0 : 0 ≤ mt_sx (t i) ∧ mt_sx (t i) ≤ 1 := by unfold mt_sx; split <;> omega
            have su0 : 0 ≤ mt_su (t i) ∧ mt_su (t i) ≤ 1 := by unfold mt_su; split <;> omega
            have kk : ∀ j, j ≠ 215 → j ≠ 225 → j ≠ 226 → ml_up (ml_up σ3 225 d s1) 226 d s2 j = σ16 j := fun j h1 h2 h3 => by rw [ml_up_k h3, ml_up_k h2, g3, ml_up_k h1]
            have bb : ml_up (ml_up σ3 225 d s1) 226 d s2 215 = σ3 215 := by rw [ml_up_k (by omega), ml_up_k (by omega)]
            refine AF N (i + 2) d S SU (S d) (mt_sx (t i)) (SU d) (mt_su (t i)) _ ⟨fun j h1 h2 h3 h4 h5 => by rw [kk j h1 h4 h5, f16.1 j h1 h2 h3 h4 h5], fun b h1 h2 => by rw [bb, g3, ml_up_i h1, f16.2 b h1 h2]⟩ ?_ ?_ (by omega) (by omega) d0 d6 z7 (by omega) (by omega) ?_ ?_ S0 sx0.1 SU0 su0.1 ?_ ?_ ?_ ?_ z8 hx hu
            · rw [bb, g3, ml_up_i (by omega), b16 20 (by omega), e20]
            · rw [bb, g3, ml_up_same]; omega
            · rw [kk 223 (by omega) (by omega) (by omega)]; exact fun k k0 k1 => lo16 k k0 (by omega)
            · rw [kk 224 (by omega) (by omega) (by omega)]; exact fun k k0 k1 => lou16 k k0 (by omega)
            · rw [kk 223 (by omega) (by omega) (by omega)]; exact A16
            · rw [ml_up_k (by omega), ml_up_same, e1]; unfold mt_top; omega
            · rw [kk 224 (by omega) (by omega) (by omega)]; exact U16
            · rw [ml_up_same, e2]; unfold mt_top; omega
          have go2 : ∀ s1, s1 = mt_sx (t i) → f_X12_counts_u293 Q (f_X12_counts_u40 Q (f_X12_counts_u347 Q) N) σ3 w d (t i) d s1 := by
            intro s1 e1
            unfold f_X12_counts_u293
            refine ⟨d0, by omega, fun σ1 g1 => ⟨fun c => ?_, fun c => ?_⟩⟩
            · unfold f_X12_counts_u310
              refine ⟨d0, by omega, fun σ2 g2 => ?_⟩
              rw [g2, g1]
              exact go s1 0 e1 (by unfold mt_su; rw [if_neg c])
            · unfold f_X12_counts_u310
              refine ⟨d0, by omega, fun σ2 g2 => ?_⟩
              rw [g2, g1]
              exact go s1 1 e1 (by unfold mt_su; rw [if_pos c])
          exact ⟨fun c => go2 0 (by unfold mt_sx; rw [if_neg c]), fun c => go2 1 (by unfold mt_sx; rw [if_pos c])⟩
        · omega
      refine ⟨fun c40 => ⟨fun c41 => ⟨fun c120 => SGN (Or.inl c120), fun c120 => ⟨fun c117 => ?_, fun c117 => SGN (Or.inr c117)⟩⟩, fun c41 => ?_⟩, fun c40 => ?_⟩
      · -- a letter
        rcases mt_gr_c n0 i0 g with z | z | z | z | z
        · omega
        · omega
        · omega
        · omega
        · obtain ⟨z1, z2, z3, z4, z5, z6⟩ := z
          rw [if_neg (by omega), if_neg (by omega), if_neg (by omega)] at hx hu
          obtain ⟨w1', w2', w3', w4'⟩ := wc (t i - 65) (by omega) z4
          refine ⟨mt_I (by omega) (by omega), by omega, by omega, fun _ => ⟨d0, by omega, fun σ23 g23 => ⟨mt_I (by omega) (by omega), by omega, by omega, fun _ => ⟨d0, by omega, fun σ26 g26 => ?_⟩⟩⟩⟩
          unfold f_X12_counts_u344
          have v221 : σ16 221 (t i - 65) = min mt_top (cx (t i - 65)) := by rw [k16 221 (by omega) (by omega) (by omega), f.1 221 (by omega) (by omega) (by omega) (by omega) (by omega), w2']
          have v222 : σ23 222 (t i - 65) = min mt_top (cu (t i - 65)) := by rw [g23, ml_up_k (by omega), k16 222 (by omega) (by omega) (by omega), f.1 222 (by omega) (by omega) (by omega) (by omega) (by omega), w4']
          have kk : ∀ j, j ≠ 225 → j ≠ 226 → σ26 j = σ16 j := fun j h2 h3 => by rw [g26, ml_up_k h3, g23, ml_up_k h2]
          refine AF N (i + 1) d S SU (S d) (cx (t i - 65)) (SU d) (cu (t i - 65)) _ ⟨fun j h1 h2 h3 h4 h5 => by rw [kk j h4 h5, f16.1 j h1 h2 h3 h4 h5], fun b h1 h2 => by rw [kk 215 (by omega) (by omega), f16.2 b h1 h2]⟩ ?_ ?_ (by omega) (by omega) d0 d6 z5 (by omega) (by omega) ?_ ?_ S0 w1' SU0 w3' ?_ ?_ ?_ ?_ z6 hx hu
          · rw [kk 215 (by omega) (by omega), b16 20 (by omega), e20]
          · rw [kk 215 (by omega) (by omega), r16]
          · rw [kk 223 (by omega) (by omega)]; exact fun k k0 k1 => lo16 k k0 (by omega)
          · rw [kk 224 (by omega) (by omega)]; exact fun k k0 k1 => lou16 k k0 (by omega)
          · rw [kk 223 (by omega) (by omega)]; exact A16
          · rw [g26, ml_up_k (by omega), g23, ml_up_same, v221]
          · rw [kk 224 (by omega) (by omega)]; exact U16
          · rw [g26, ml_up_same, v222]
      · -- a closing
        rcases mt_gr_c n0 i0 g with z | z | z | z | z
        · omega
        · omega
        · obtain ⟨z1, z2, z3, z4, z5, z6⟩ := z
          rw [if_neg (by omega), if_pos c41] at hx hu
          refine ⟨mt_I (by omega) (by omega), fun y27 e27 => ?_⟩
          have e27 : y27 = d - 1 := by omega
          subst e27
          rw [show d - 1 + 1 = d by omega]
          refine ⟨mt_I (by omega) (by omega), by omega, by omega, fun _ => ⟨by omega, by omega, fun σ30 g30 => ⟨mt_I (by omega) (by omega), by omega, by omega, fun _ => ⟨by omega, by omega, fun σ33 g33 => ?_⟩⟩⟩⟩
          unfold f_X12_counts_u344
          have kk : ∀ j, j ≠ 225 → j ≠ 226 → σ33 j = σ16 j := fun j h2 h3 => by rw [g33, ml_up_k h3, g30, ml_up_k h2]
          obtain ⟨p1, p2⟩ := lo16 (d - 1) (by omega) (by omega)
          obtain ⟨p3, p4⟩ := lou16 (d - 1) (by omega) (by omega)
          refine AF N (i + 1) (d - 1) S SU (S (d - 1)) (S d) (SU (d - 1)) (SU d) _ ⟨fun j h1 h2 h3 h4 h5 => by rw [kk j h4 h5, f16.1 j h1 h2 h3 h4 h5], fun b h1 h2 => by rw [kk 215 (by omega) (by omega), f16.2 b h1 h2]⟩ ?_ ?_ (by omega) (by omega) (by omega) (by omega) z5 (by omega) (by omega) ?_ ?_ p1 S0 p3 SU0 ?_ ?_ ?_ ?_ z6 hx hu
          · rw [kk 215 (by omega) (by omega), b16 20 (by omega), e20]
          · rw [kk 215 (by omega) (by omega), r16]
          · rw [kk 223 (by omega) (by omega)]; exact fun k k0 k1 => lo16 k k0 (by omega)
          · rw [kk 224 (by omega) (by omega)]; exact fun k k0 k1 => lou16 k k0 (by omega)
          · rw [kk 223 (by omega) (by omega)]; exact p2
          · rw [g33, ml_up_k (by omega), g30, ml_up_same, A16]
          · rw [kk 224 (by omega) (by omega)]; exact p4
          · rw [g33, ml_up_same, g30, ml_up_k (by omega), U16]
        · omega
        · omega
      · -- an opening
        rcases mt_gr_c n0 i0 g with z | z | z | z | z
        · omega
        · obtain ⟨z1, z2, z3, z4⟩ := z
          rw [if_pos c40] at hx hu
          refine ⟨d0, by omega, fun σ34 g34 => ⟨d0, by omega, fun σ35 g35 => ⟨mt_I (by omega) (by omega), fun y36 e36 => ?_⟩⟩⟩
          subst e36
          refine ⟨by omega, by omega, fun σ37 g37 => ⟨by omega, by omega, fun σ38 g38 => ⟨by omega, by omega, fun σ39 g39 => ⟨by omega, by omega, fun σ40 g40 => ?_⟩⟩⟩⟩
          unfold f_X12_counts_u344
          have kk : ∀ j, j ≠ 223 → j ≠ 224 → j ≠ 225 → j ≠ 226 → σ40 j = σ16 j := fun j h0 h1 h2 h3 => by rw [g40, ml_up_k h3, g39, ml_up_k h2, g38, ml_up_k h1, g37, ml_up_k h0, g35, ml_up_k h3, g34, ml_up_k h2]
          have v223 : σ40 223 = ml_up σ16 223 (d + 1) 0 223 := by
            rw [g40, ml_up_k (by omega), g39, ml_up_k (by omega), g38, ml_up_k (by omega), g37]
            funext b; unfold ml_up; rw [g35, ml_up_k (by omega), g34, ml_up_k (by omega)]
          have v224 : σ40 224 = ml_up σ16 224 (d + 1) 0 224 := by
            rw [g40, ml_up_k (by omega), g39, ml_up_k (by omega), g38]
            funext b; unfold ml_up; rw [g37, ml_up_k (by omega), g35, ml_up_k (by omega), g34, ml_up_k (by omega)]
          have top0 : min mt_top 0 = 0 := by unfold mt_top; omega
          refine ih N (i + 1) (d + 1) 1 _ _ 0 0 0 0 σ40 ⟨fun j h1 h2 h3 h4 h5 => by rw [kk j h2 h3 h4 h5, f16.1 j h1 h2 h3 h4 h5], fun b h1 h2 => by rw [kk 215 (by omega) (by omega) (by omega) (by omega), f16.2 b h1 h2]⟩ ?_ ?_ (by omega) (by omega) (by omega) (by omega) (by omega) (by omega) ?_ ?_ (by omega) (by omega) (by omega) (by omega) ?_ ?_ ?_ ?_ ?_ ?_ z4 hx hu
          · rw [kk 215 (by omega) (by omega) (by omega) (by omega), b16 20 (by omega), e20]
          · rw [kk 215 (by omega) (by omega) (by omega) (by omega), r16]
          · intro k k0 k1
            rw [v223, ml_up_i (by omega)]
            unfold mt_st; rw [if_neg (by omega)]
            exact lo16 k k0 k1
          · intro k k0 k1
            rw [v224, ml_up_i (by omega)]
            unfold mt_st; rw [if_neg (by omega)]
            exact lou16 k k0 k1
          · unfold mt_st; rw [if_pos rfl]; omega
          · unfold mt_st; rw [if_pos rfl]; omega
          · rw [v223, ml_up_same, top0]
          · rw [g40, ml_up_k (by omega), g39, ml_up_same, top0]
          · rw [v224, ml_up_same, top0]
          · rw [g40, ml_up_same, top0]
        · omega
        · omega
        · omega
  unfold f_X12_counts f_X12_counts_u0
  intro σ1 g1 σ2 g2
  refine ⟨by omega, by omega, fun σ3 g3 => ⟨by omega, by omega, fun σ4 g4 => ⟨by omega, by omega, fun σ5 g5 => ⟨by omega, by omega, fun σ6 g6 => ⟨n.toNat + 3, ?_⟩⟩⟩⟩⟩
  have top0 : min mt_top 0 = 0 := by unfold mt_top; omega
  have b6 : σ6 215 = σ2 215 := by rw [g6, ml_up_k (by omega), g5, ml_up_k (by omega), g4, ml_up_k (by omega), g3, ml_up_k (by omega)]
  refine L (n.toNat + 1) _ 0 0 1 (fun _ => 0) (fun _ => 0) 0 0 0 0 σ6 ⟨fun j h1 h2 h3 h4 h5 => ?_, fun b h1 h2 => ?_⟩ ?_ ?_ (by omega) n0 (by omega) (by omega) (by omega) (by omega) (fun k k0 k1 => absurd k1 (by omega)) (fun k k0 k1 => absurd k1 (by omega)) (by omega) (by omega) (by omega) (by omega) (by omega) (by omega) ?_ ?_ ?_ ?_ g rfl rfl
  · rw [g6, ml_up_k h5, g5, ml_up_k h4, g4, ml_up_k h3, g3, ml_up_k h2, g2, ml_up_k h1, g1, ml_up_k h1]
  · rw [b6, g2, ml_up_i h1, g1, ml_up_i h2]
  · rw [b6, g2, ml_up_i (by omega), g1, ml_up_same]
  · rw [b6, g2, ml_up_same]
  · rw [g6, ml_up_k (by omega), g5, ml_up_k (by omega), g4, ml_up_k (by omega), g3, ml_up_same, top0]
  · rw [g6, ml_up_k (by omega), g5, ml_up_same, top0]
  · rw [g6, ml_up_k (by omega), g5, ml_up_k (by omega), g4, ml_up_same, top0]
  · rw [g6, ml_up_same, top0]
