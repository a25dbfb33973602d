theorem mt_wo_cv {h told ts cap w n : Int} {tb cl pr sz : Int → Int} {T : Int → Int → Int} (h2 : 2 ≤ h) (h5 : h ≤ 5) (t16 : told ≤ 16) (gd : ∀ v : Nat, (v : Int) < told → mt_good h v (T v) (sz v)) (w1 : w ≤ told) (n0 : 0 ≤ n) (z : mt_fl h w n tb = 0) : mt_cv h (mt_wo tb n h (mt_mk h T sz)) (mt_ctw tb n mt_one (mt_cn mt_one T sz)) := by
  refine mt_cv_we (w := w) n0 h2 h5 (fun v v0 v1 => ?_) _ _ _ 1 _ _ (Int.le_refl 0) n0 (Int.le_refl 0) (fun k _ _ => mt_cv_str h5) z
  have := mt_cv_mk (T := T) (sz := sz) h2 h5 v.toNat (by omega) (fun u hu => gd u (by omega))
  rw [show ((v.toNat : Nat) : Int) = v by omega] at this
  exact this
theorem mt_cv_23 {h C : Int} {v : Int → Int} (c : mt_cv h v C) : (v 23 ≤ mt_mst ↔ C ≤ mt_mst) := by
  have := c.2.2.2.1
  unfold mt_mst mt_top at *
  omega
theorem s_isLength {Q : Int → ml_St → Prop} {n ts : Int} {τ : ml_St} (e : τ 215 1 = ts) (k1 : 1 ≤ n → n ≤ 100 → n ≤ ts → Q 1 τ) (k0 : ¬ (1 ≤ n ∧ n ≤ 100 ∧ n ≤ ts) → Q 0 τ) : f_X12_isLength τ n Q := by
  unfold f_X12_isLength f_X12_isLength_u0
  unfold f_X12_isLength_u24 f_X12_isLength_u25
  refine s_lies (fun a b _ => ⟨fun c => absurd c (by omega), fun _ => ?_⟩) (fun c _ => ⟨fun _ => k0 (by omega), fun z => absurd rfl z⟩)
  rw [e]
  exact fun _ => ⟨fun d => k0 (by omega), fun d => k1 a b (by omega)⟩
/-- after telling: all woven anew -/
theorem s_all2 {Q : ml_St → Prop} {h told ts cap : Int} {tb cl pr : Int → Int} {T : Int → Int → Int} {sz : Int → Int} {τ0 τ1 : ml_St} {told0 : Int} (a : im_A h told τ1) (c : im_C h cap cl τ0) (d : im_D pr τ0) (f : ∀ j, (j < 215 ∨ j = 216 ∨ j = 217 ∨ j = 220) → τ1 j = τ0 j) (fb : τ1 215 4 = τ0 215 4) (z : τ1 215 1 = 0) (tx : ∀ v, 0 ≤ v → v < told → im_T h T sz v τ1) (k : ∀ τ, IM h told 0 cap tb cl pr sz T τ → (∀ j, j < 215 → τ j = τ0 j) → Q τ) : f_X12_all τ1 Q := by
  refine s_all a tx (fun τ g gb e => k τ ⟨?_, ⟨by rw [gb 1 (by omega) (by omega), z], by omega, by omega, fun i i0 i1 => absurd i1 (by omega)⟩, ?_, ?_, e⟩ (fun j hj => by rw [g j (by omega), f j (by omega)]))
  · unfold im_A; rw [gb 2 (by omega) (by omega), gb 3 (by omega) (by omega)]; exact a
  · unfold im_C mt_jv; rw [gb 4 (by omega) (by omega), fb, g 217 (by omega), f 217 (by omega)]; exact c
  · unfold im_D; rw [g 220 (by omega), f 220 (by omega)]; exact d
theorem m_word {Q : Int → ml_St → Prop} {h told ts cap n : Int} {tb cl pr sz : Int → Int} {T : Int → Int → Int} {τ0 : ml_St} (i : IM h told ts cap tb cl pr sz T τ0)
    (k1 : ¬ (told ≠ 16 ∧ 1 ≤ n ∧ n ≤ 100 ∧ n ≤ ts) → Q (-1) τ0)
    (k2 : told ≠ 16 → 1 ≤ n → n ≤ 100 → n ≤ ts → mt_fl h told n tb ≠ 0 → ∀ τ, IM h told 0 cap tb cl pr sz T τ → (∀ j, j < 215 → τ j = τ0 j) → Q (mt_fl h told n tb) τ)
    (k3 : told ≠ 16 → 1 ≤ n → n ≤ 100 → n ≤ ts → mt_fl h told n tb = 0 → mt_mst < mt_wo tb n h (mt_mk h T sz) 23 → ∀ τ, IM h told 0 cap tb cl pr sz T τ → (∀ j, j < 215 → τ j = τ0 j) → Q (-5000 - n) τ)
    (k4 : told ≠ 16 → 1 ≤ n → n ≤ 100 → n ≤ ts → mt_fl h told n tb = 0 → mt_wo tb n h (mt_mk h T sz) 23 ≤ mt_mst → ∀ τ, IM h (told + 1) 0 cap tb cl pr (mt_st sz told n) (mt_sT T told tb) τ → (∀ j, j < 215 → τ j = τ0 j) → Q told τ) : f_X12_word τ0 n Q := by
  have iT := IM_T i
  obtain ⟨a, b, c, d, e⟩ := i
  obtain ⟨a1, a2, h2, h5, t0, t16⟩ := id a
  unfold f_X12_word f_X12_word_u0
  unfold f_X12_word_u17
  rw [a2]
  refine fun _ => ⟨fun z => k1 (fun q => q.1 z), fun z => s_isLength b.1 (fun n1 n100 nt _ => ⟨fun _ => ?_, fun y => absurd y (by omega)⟩) (fun q _ => ⟨fun y => absurd rfl y, fun _ => k1 (fun y => q y.2)⟩)⟩
  rw [a2]
  refine fun _ => ⟨t0, by omega, fun σ6 s6 => ?_⟩
  have f6 : ∀ j, j ≠ 219 → σ6 j = τ0 j := fun j hj => by rw [s6, ml_up_k hj]
  rw [f6 215 (by omega), a2]
  have cvz := fun z0 => mt_wo_cv (told := told) (ts := ts) (cap := cap) (cl := cl) (pr := pr) (tb := tb) h2 h5 t16 iT (Int.le_refl told) (show 0 ≤ n by omega) z0
  refine fun _ => s_told (w := told) (m := 0) (ts := ts) (cap := cap) (tb := tb) (cl := cl) (pr := pr) (sz := sz) (T := T) (by unfold im_A; rw [f6 215 (by omega)]; exact a) (by unfold im_B; rw [f6 215 (by omega), f6 216 (by omega)]; exact b) (by unfold im_C mt_jv; rw [f6 215 (by omega), f6 217 (by omega)]; exact c) (by unfold im_D; rw [f6 220 (by omega)]; exact d) (fun v v0 v1 => ?_) t0 (Int.le_refl _) (by omega) n1 n100 nt (by rw [s6, ml_up_same]) (by rw [if_neg (by omega)]) (fun z1 lt τ iτ f _ => ⟨fun y => absurd lt (by omega), fun _ => k2 z n1 n100 nt z1 τ iτ (fun j hj => by rw [f j hj, f6 j (by omega)])⟩) (fun z1 big τ iτ f _ => ⟨fun y => absurd y (by omega), fun _ => k3 z n1 n100 nt z1 ?_ τ iτ (fun j hj => by rw [f j hj, f6 j (by omega)])⟩) (fun z1 sml τ f fb zb tx _ => ⟨fun _ => ?_, fun y => absurd (Int.le_refl 0) y⟩)
  · obtain ⟨x1, x2, x, x3, x4, x5⟩ := e v v0 v1
    refine ⟨?_, ?_, x, ?_, x4, x5⟩
    · unfold im_T at x1 ⊢; rw [f6 218 (by omega), s6, ml_up_i (by omega)]; exact x1
    · unfold im_N; rw [f6 221 (by omega), f6 222 (by omega)]; exact x2
    · unfold mt_mv; rw [f6 227 (by omega), f6 228 (by omega), f6 229 (by omega), f6 230 (by omega), f6 231 (by omega)]; exact x3
  · have := mt_cv_23 (cvz z1)
    omega
  · have e3 : τ 215 3 = told := by rw [fb 3 (by omega) (by omega), f6 215 (by omega), a2]
    rw [e3]
    refine fun _ => ⟨mt_I (by omega) (by omega), fun σ12 s12 => ?_⟩
    have k12 : ∀ j, j ≠ 215 → σ12 j = τ j := fun j hj => by rw [s12, ml_up_k hj]
    rw [show max told (told + 1) = told + 1 by omega] at tx
    refine s_all2 (h := h) (told := told + 1) (ts := ts) (cap := cap) (tb := tb) (cl := cl) (pr := pr) (T := mt_sT T told tb) (sz := mt_st sz told n) (τ0 := τ0) (told0 := told) ⟨by rw [s12, ml_up_i (by omega), fb 2 (by omega) (by omega), f6 215 (by omega), a1], by rw [s12, ml_up_same], h2, h5, by omega, by omega⟩ c d (fun j hj => by rw [k12 j (by omega), f j hj, f6 j (by omega)]) (by rw [s12, ml_up_i (by omega), fb 4 (by omega) (by omega), f6 215 (by omega)]) (by rw [s12, ml_up_i (by omega), zb]) (fun v v0 v1 => ?_) (fun σ13 i13 f13 => ?_)
    · have := tx v v0 v1
      unfold im_T at this ⊢; rw [k12 218 (by omega), k12 219 (by omega)]; exact this
    · rw [i13.1.2.1]
      refine fun _ => ⟨mt_I (by omega) (by omega), ?_⟩
      rw [show told + 1 - 1 = told by omega]
      exact k4 z n1 n100 nt z1 ((mt_cv_23 (cvz z1)).2 sml) σ13 i13 f13
theorem m_change {Q : Int → ml_St → Prop} {h told ts cap w n : Int} {tb cl pr sz : Int → Int} {T : Int → Int → Int} {τ0 : ml_St} (i : IM h told ts cap tb cl pr sz T τ0)
    (k1 : ¬ ((0 ≤ w ∧ w < told) ∧ 1 ≤ n ∧ n ≤ 100 ∧ n ≤ ts) → Q (-1) τ0)
    (k2 : 0 ≤ w → w < told → 1 ≤ n → n ≤ 100 → n ≤ ts → mt_fl h w n tb ≠ 0 → ∀ τ, IM h told 0 cap tb cl pr sz T τ → (∀ j, j < 215 → τ j = τ0 j) → Q (mt_fl h w n tb) τ)
    (k3 : 0 ≤ w → w < told → 1 ≤ n → n ≤ 100 → n ≤ ts → mt_fl h w n tb = 0 → mt_mst < mt_wo tb n h (mt_mk h T sz) 23 → ∀ τ, IM h told 0 cap tb cl pr sz T τ → (∀ j, j < 215 → τ j = τ0 j) → Q (-5000 - n) τ)
    (k4 : 0 ≤ w → w < told → 1 ≤ n → n ≤ 100 → n ≤ ts → mt_fl h w n tb = 0 → mt_wo tb n h (mt_mk h T sz) 23 ≤ mt_mst → ∀ τ, IM h told 0 cap tb cl pr (mt_st sz w n) (mt_sT T w tb) τ → (∀ j, j < 215 → τ j = τ0 j) → Q w τ) : f_X12_change τ0 w n Q := by
  have iT := IM_T i
  obtain ⟨a, b, c, d, e⟩ := i
  obtain ⟨a1, a2, h2, h5, t0, t16⟩ := id a
  unfold f_X12_change f_X12_change_u0
  unfold f_X12_change_u16
  refine s_isWord t0 t16 a2 (fun w0 w1 _ => ⟨fun y => absurd y (by omega), fun _ => s_isLength b.1 (fun n1 n100 nt _ => ⟨fun _ => ?_, fun y => absurd y (by omega)⟩) (fun q _ => ⟨fun y => absurd rfl y, fun _ => k1 (fun y => q y.2)⟩)⟩) (fun q _ => ⟨fun _ => k1 (fun y => q y.1), fun y => absurd rfl y⟩)
  have cvz := fun z0 => mt_wo_cv (told := told) (w := w) (ts := ts) (cap := cap) (cl := cl) (pr := pr) (tb := tb) h2 h5 t16 iT (by omega) (show 0 ≤ n by omega) z0
  refine s_told (w := w) (m := sz w) (ts := ts) (cap := cap) (tb := tb) (cl := cl) (pr := pr) (sz := sz) (T := T) a b c d e w0 (by omega) (by omega) n1 n100 nt (e w w0 w1).1.2.1 (by rw [if_pos w1]) (fun z1 lt τ iτ f _ => ⟨fun y => absurd lt (by omega), fun _ => k2 w0 w1 n1 n100 nt z1 τ iτ f⟩) (fun z1 big τ iτ f _ => ⟨fun y => absurd y (by omega), fun _ => k3 w0 w1 n1 n100 nt z1 ?_ τ iτ f⟩) (fun z1 sml τ f fb zb tx _ => ⟨fun _ => ?_, fun y => absurd (Int.le_refl 0) y⟩)
  · have := mt_cv_23 (cvz z1)
    omega
  · rw [show max told (w + 1) = told by omega] at tx
    refine s_all2 (h := h) (told := told) (ts := ts) (cap := cap) (tb := tb) (cl := cl) (pr := pr) (T := mt_sT T w tb) (sz := mt_st sz w n) (τ0 := τ0) (told0 := told) ⟨by rw [fb 2 (by omega) (by omega), a1], by rw [fb 3 (by omega) (by omega), a2], h2, h5, t0, t16⟩ c d f (fb 4 (by omega) (by omega)) zb tx (fun σ13 i13 f13 => k4 w0 w1 n1 n100 nt z1 ((mt_cv_23 (cvz z1)).2 sml) σ13 i13 f13)
theorem m_rails {Q : Int → ml_St → Prop} {h told ts cap n : Int} {tb cl pr sz : Int → Int} {T : Int → Int → Int} {τ0 : ml_St} (i : IM h told ts cap tb cl pr sz T τ0) (k0 : ¬ (2 ≤ n ∧ n ≤ 5 ∧ told = 0) → Q 0 τ0) (k1 : 2 ≤ n → n ≤ 5 → told = 0 → ∀ τ, IM n told ts 0 tb (mt_str n) pr sz T τ → (∀ j, j < 215 → τ j = τ0 j) → Q 1 τ) : f_X12_rails τ0 n Q := by
  obtain ⟨a, b, c, d, e⟩ := i
  obtain ⟨a1, a2, h2, h5, t0, t16⟩ := id a
  unfold f_X12_rails f_X12_rails_u0
  unfold f_X12_rails_u21
  refine s_lies (fun x y _ => ⟨fun z => absurd z (by omega), fun _ => ?_⟩) (fun q _ => ⟨fun _ => k0 (fun z => q ⟨z.1, z.2.1⟩), fun z => absurd rfl z⟩)
  rw [a2]
  refine fun _ => ⟨fun z σ5 s5 σ6 s6 => ?_, fun z => k0 (by omega)⟩
  have t00 : told = 0 := by omega
  have f6 : ∀ j, j ≠ 215 → σ6 j = τ0 j := fun j hj => by rw [s6, ml_up_k hj, s5, ml_up_k hj]
  refine k1 x y t00 σ6 ⟨⟨by rw [s6, ml_up_i (by omega), s5, ml_up_same], by rw [s6, ml_up_i (by omega), s5, ml_up_i (by omega), a2], x, y, t0, t16⟩, ?_, ⟨by rw [s6, ml_up_same], Or.inl rfl, fun e e0 e1 => ⟨fun z => absurd (by rw [s6, ml_up_same]) z, fun _ => rfl⟩, mt_str_M y⟩, ?_, fun v v0 v1 => absurd v1 (by omega)⟩ (fun j hj => f6 j (by omega))
  · unfold im_B; rw [f6 216 (by omega), s6, ml_up_i (by omega), s5, ml_up_i (by omega)]; exact b
  · unfold im_D; rw [f6 220 (by omega)]; exact d
theorem m_round {Q : Int → ml_St → Prop} {h told ts cap : Int} {tb cl pr sz : Int → Int} {T : Int → Int → Int} {τ0 : ml_St} (i : IM h told ts cap tb cl pr sz T τ0) (k : ∀ τ, IM h told ts 0 tb (mt_str h) pr sz T τ → (∀ j, j < 215 → τ j = τ0 j) → Q 1 τ) : f_X12_round τ0 Q := by
  obtain ⟨a, b, c, d, e⟩ := i
  unfold f_X12_round f_X12_round_u0
  intro σ1 s1
  have f : ∀ j, j ≠ 215 → σ1 j = τ0 j := fun j hj => by rw [s1, ml_up_k hj]
  have fb : ∀ b, b ≠ 4 → σ1 215 b = τ0 215 b := fun b hb => by rw [s1, ml_up_i hb]
  refine k σ1 ⟨?_, ?_, ⟨by rw [s1, ml_up_same], Or.inl rfl, fun e e0 e1 => ⟨fun z => absurd (by rw [s1, ml_up_same]) z, fun _ => rfl⟩, mt_str_M a.2.2.2.1⟩, ?_, fun v v0 v1 => ?_⟩ (fun j hj => f j (by omega))
  · unfold im_A; rw [fb 2 (by omega), fb 3 (by omega)]; exact a
  · unfold im_B; rw [fb 1 (by omega), f 216 (by omega)]; exact b
  · unfold im_D; rw [f 220 (by omega)]; exact d
  · obtain ⟨x1, x2, x, x3, x4, x5⟩ := e v v0 v1
    refine ⟨?_, ?_, x, ?_, x4, x5⟩
    · unfold im_T; rw [f 218 (by omega), f 219 (by omega)]; exact x1
    · unfold im_N; rw [f 221 (by omega), f 222 (by omega)]; exact x2
    · unfold mt_mv; rw [f 227 (by omega), f 228 (by omega), f 229 (by omega), f 230 (by omega), f 231 (by omega)]; exact x3
theorem s_push {Q : ml_St → Prop} {ts x : Int} {tb : Int → Int} {τ : ml_St} (b : im_B ts tb τ) (h196 : ts ≤ 196) (k : ∀ τ', (∀ j, j ≠ 215 → j ≠ 216 → τ' j = τ j) → (∀ b, b ≠ 1 → τ' 215 b = τ 215 b) → im_B (ts + 4) (mt_push tb ts x) τ' → Q τ') : f_X12_push τ x Q := by
  obtain ⟨b1, b2, b3, b4⟩ := b
  have I8 : ∀ z, ml_I8 (b_i2b z) := fun z => by
    unfold b_i2b
    generalize (Int32.ofInt z).toInt8 = y
    exact ⟨by have := Int8.le_toInt y; omega, by have := Int8.toInt_lt y; omega⟩
  have one : ∀ (N : Nat) (s t : Int) (τ : ml_St), 0 ≤ s → s ≤ 24 → τ 215 1 = t → 0 ≤ t → t < 200 → f_X12_push_u3 Q (f_X12_push_u36 Q) N (ml_up (ml_up τ 216 t (b_i2b (b_shr x s))) 215 1 (t + 1)) x (s - 8) → f_X12_push_u3 Q (f_X12_push_u36 Q) (N + 1) τ x s := by
    intro N s t τ s0 s1 e t0 t1 kk
    unfold f_X12_push_u3
    rw [e]
    refine ⟨fun c => absurd c (by omega), fun _ _ => ⟨t0, t1, fun σ3 s3 => ?_⟩⟩
    rw [s3, ml_up_k (by omega), e]
    refine fun _ => ⟨mt_I (by omega) (by omega), fun σ6 s6 => ⟨mt_I (by omega) (by omega), fun y7 e7 => ?_⟩⟩
    rw [s6, e7]
    exact kk
  unfold f_X12_push f_X12_push_u0
  refine ⟨5, one 4 24 ts τ (by omega) (by omega) b1 b2 (by omega) (one 3 16 (ts + 1) _ (by omega) (by omega) (ml_up_same _ _ _ _) (by omega) (by omega) (one 2 8 (ts + 2) _ (by omega) (by omega) ?_ (by omega) (by omega) (one 1 0 (ts + 3) _ (by omega) (by omega) ?_ (by omega) (by omega) ?_)))⟩
  · rw [ml_up_same]; omega
  · rw [ml_up_same]; omega
  · unfold f_X12_push_u3
    refine ⟨fun _ => ?_, fun c => absurd c (by omega)⟩
    unfold f_X12_push_u36
    refine k _ (fun j h1 h2 => by rw [ml_up_k h1, ml_up_k h2, ml_up_k h1, ml_up_k h2, ml_up_k h1, ml_up_k h2, ml_up_k h1, ml_up_k h2]) (fun b hb => by rw [ml_up_i hb, ml_up_k (by omega), ml_up_i hb, ml_up_k (by omega), ml_up_i hb, ml_up_k (by omega), ml_up_i hb, ml_up_k (by omega)]) ⟨by rw [ml_up_same]; omega, by omega, by omega, fun i i0 i1 => ?_⟩
    have n32 : (216 : Int) ≠ 215 := by omega
    simp only [mt_up2, n32, false_and, if_false, true_and]
    unfold mt_push
    by_cases c0 : i = ts
    · subst c0
      rw [if_neg (by omega), if_neg (by omega), if_neg (by omega), if_pos rfl, if_pos rfl]
      exact ⟨rfl, I8 _⟩
    rw [if_neg c0]
    by_cases c1 : i = ts + 1
    · rw [if_neg (by omega), if_neg (by omega), if_pos c1, if_neg c0, if_pos c1]
      exact ⟨rfl, I8 _⟩
    rw [if_neg c1]
    by_cases c2 : i = ts + 2
    · rw [if_neg (by omega), if_pos c2, if_neg c0, if_neg c1, if_pos c2]
      exact ⟨rfl, I8 _⟩
    rw [if_neg c2]
    by_cases c3 : i = ts + 3
    · rw [if_pos c3, if_neg c0, if_neg c1, if_neg c2, if_pos c3]
      exact ⟨rfl, I8 _⟩
    rw [if_neg c3, if_neg c0, if_neg c1, if_neg c2, if_neg c3]
    exact b4 i i0 (by omega)
theorem m_feed {Q : Int → ml_St → Prop} {h told ts cap x1 x2 x3 x4 x5 : Int} {tb cl pr sz : Int → Int} {T : Int → Int → Int} {τ0 : ml_St} (i : IM h told ts cap tb cl pr sz T τ0) (k0 : 180 < ts → Q (-1) τ0) (k1 : ts ≤ 180 → ∀ τ, IM h told (ts + 20) cap (mt_fed tb ts x1 x2 x3 x4 x5) cl pr sz T τ → (∀ j, j < 215 → τ j = τ0 j) → Q (ts + 20) τ) : f_X12_feed τ0 x1 x2 x3 x4 x5 Q := by
  obtain ⟨a, b, c, d, e⟩ := i
  have b1 := b.1
  have b2 := b.2.1
  have b3 := b.2.2.1
  unfold f_X12_feed f_X12_feed_u0
  rw [b1]
  refine fun _ => ⟨mt_I (by omega) (by omega), fun q => ?_, fun q => k0 (by omega)⟩
  refine s_push b (by omega) (fun σ1 f1 p1 g1 => s_push g1 (by omega) (fun σ2 f2 p2 g2 => s_push g2 (by omega) (fun σ3 f3 p3 g3 => s_push g3 (by omega) (fun σ4 f4 p4 g4 => s_push g4 (by omega) (fun σ5 f5 p5 g5 => ?_)))))
  rw [g5.1]
  have e20 : ts + 4 + 4 + 4 + 4 + 4 = ts + 20 := by omega
  rw [e20] at g5 ⊢
  rw [show ts + 4 + 4 + 4 + 4 = ts + 16 by omega, show ts + 4 + 4 + 4 = ts + 12 by omega, show ts + 4 + 4 = ts + 8 by omega] at g5
  have f : ∀ j, j ≠ 215 → j ≠ 216 → σ5 j = τ0 j := fun j h1 h2 => by rw [f5 j h1 h2, f4 j h1 h2, f3 j h1 h2, f2 j h1 h2, f1 j h1 h2]
  have fb : ∀ b, b ≠ 1 → σ5 215 b = τ0 215 b := fun b h1 => by rw [p5 b h1, p4 b h1, p3 b h1, p2 b h1, p1 b h1]
  refine fun _ => k1 (by omega) σ5 ⟨?_, g5, ?_, ?_, fun v v0 v1 => ?_⟩ (fun j hj => f j (by omega) (by omega))
  · unfold im_A; rw [fb 2 (by omega), fb 3 (by omega)]; exact a
  · unfold im_C mt_jv; rw [fb 4 (by omega), f 217 (by omega) (by omega)]; exact c
  · unfold im_D; rw [f 220 (by omega) (by omega)]; exact d
  · obtain ⟨x1, x2, x, x3, x4, x5⟩ := e v v0 v1
    refine ⟨?_, ?_, x, ?_, x4, x5⟩
    · unfold im_T; rw [f 218 (by omega) (by omega), f 219 (by omega) (by omega)]; exact x1
    · unfold im_N; rw [f 221 (by omega) (by omega), f 222 (by omega) (by omega)]; exact x2
    · unfold mt_mv; rw [f 227 (by omega) (by omega), f 228 (by omega) (by omega), f 229 (by omega) (by omega), f 230 (by omega) (by omega), f 231 (by omega) (by omega)]; exact x3
