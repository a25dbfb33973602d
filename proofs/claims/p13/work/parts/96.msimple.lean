/-! the model: told, word, change -/
theorem IM_T {h told ts cap : Int} {tb cl pr sz : Int → Int} {T : Int → Int → Int} {τ : ml_St} (i : IM h told ts cap tb cl pr sz T τ) : ∀ v : Nat, (v : Int) < told → mt_good h v (T v) (sz v) := fun v hv => (i.2.2.2.2 v (by omega) hv).1.1
theorem s_lies {Q : Int → ml_St → Prop} {x a b : Int} {τ : ml_St} (k1 : a ≤ x → x ≤ b → Q 1 τ) (k0 : ¬ (a ≤ x ∧ x ≤ b) → Q 0 τ) : f_X12_lies τ x a b Q := by
  unfold f_X12_lies f_X12_lies_u0
  unfold f_X12_lies_u17 f_X12_lies_u18
  exact ⟨fun c => k0 (by omega), fun c => ⟨fun d => k0 (by omega), fun d => k1 (by omega) (by omega)⟩⟩
theorem s_isWord {Q : Int → ml_St → Prop} {w told : Int} {τ : ml_St} (t0 : 0 ≤ told) (t16 : told ≤ 16) (e : τ 215 3 = told) (k1 : 0 ≤ w → w < told → Q 1 τ) (k0 : ¬ (0 ≤ w ∧ w < told) → Q 0 τ) : f_X12_isWord τ w Q := by
  unfold f_X12_isWord f_X12_isWord_u0
  rw [e]
  exact fun _ => ⟨mt_I (by omega) (by omega), s_lies (fun a b _ => k1 a (by omega)) (fun c _ => k0 (fun z => c ⟨z.1, by omega⟩))⟩
theorem s_takesText {Q : ml_St → Prop} {w n : Int} {τ0 : ml_St} (w0 : 0 ≤ w) (w1 : w < 16) (n0 : 0 ≤ n) (n1 : n ≤ 100) (k : ∀ τ, (∀ j, j ≠ 218 → j ≠ 219 → τ j = τ0 j) → (∀ v, v ≠ w → τ 219 v = τ0 219 v) → τ 219 w = n → (∀ x, (x < 100 * w ∨ 100 * w + n ≤ x) → τ 218 x = τ0 218 x) → (∀ j, 0 ≤ j → j < n → τ 218 (100 * w + j) = τ0 216 j) → Q τ) : f_X12_takesText τ0 w n Q := by
  unfold f_X12_takesText f_X12_takesText_u0
  refine ⟨w0, w1, fun σ1 s1 => ⟨101, ?_⟩⟩
  have L : ∀ (N : Nat) (i : Int) (τ : ml_St), 0 ≤ i → i ≤ n → n - i < N → (∀ j, j ≠ 218 → τ j = σ1 j) → (∀ x, (x < 100 * w ∨ 100 * w + i ≤ x) → τ 218 x = τ0 218 x) → (∀ j, 0 ≤ j → j < i → τ 218 (100 * w + j) = τ0 216 j) → f_X12_takesText_u9 Q (f_X12_takesText_u37 Q) N τ w n i := by
    intro N
    induction N with
    | zero => intro i τ i0 i1 hN; omega
    | succ N ih =>
      intro i τ i0 i1 hN f lo hi
      unfold f_X12_takesText_u9
      refine ⟨fun c => ?_, fun c => ⟨mt_I (by omega) (by omega), mt_I (by omega) (by omega), i0, by omega, fun _ => ⟨by omega, by omega, fun σ5 s5 => ⟨mt_I (by omega) (by omega), fun y e => ?_⟩⟩⟩⟩
      · have : i = n := by omega
        subst this
        unfold f_X12_takesText_u37
        exact k τ (fun j h1 h2 => by rw [f j h1, s1, ml_up_k h2]) (fun v hv => by rw [f 219 (by omega), s1, ml_up_i hv]) (by rw [f 219 (by omega), s1, ml_up_same]) lo hi
      · subst e
        refine ih (i + 1) σ5 (by omega) (by omega) (by omega) (fun j hj => by rw [s5, ml_up_k hj, f j hj]) (fun x hx => by rw [s5, ml_up_i (by omega)]; exact lo x (by omega)) (fun j j0 j1 => ?_)
        rw [s5]
        by_cases q : j = i
        · rw [q, ml_up_same, f 216 (by omega), s1, ml_up_k (by omega)]
        · rw [ml_up_i (by omega)]; exact hi j j0 (by omega)
  exact L 101 0 σ1 (by omega) n0 (by omega) (fun _ _ => rfl) (fun x _ => by rw [s1, ml_up_k (by omega)]) (fun j j0 j1 => absurd j1 (by omega))
/-- copying a text there and back -/
theorem s_told29 {Q : Int → ml_St → Prop} {K : ml_St → Int → Int → Int → Prop} {w n m : Int} {τ0 : ml_St} (w0 : 0 ≤ w) (w1 : w < 16) (m0 : 0 ≤ m) (m1 : m ≤ 100) (k : ∀ τ, (∀ j, j ≠ 233 → τ j = τ0 j) → (∀ j, 0 ≤ j → j < m → τ 233 j = τ0 218 (100 * w + j)) → K τ w n m) : ∀ (N : Nat) (i : Int) (τ : ml_St), 0 ≤ i → i ≤ m → m - i < N → (∀ j, j ≠ 233 → τ j = τ0 j) → (∀ j, 0 ≤ j → j < i → τ 233 j = τ0 218 (100 * w + j)) → f_X12_told_u29 Q K N τ w n m i := by
  intro N
  induction N with
  | zero => intro i τ i0 i1 hN; omega
  | succ N ih =>
    intro i τ i0 i1 hN f hi
    unfold f_X12_told_u29
    refine ⟨fun c => k τ f (fun j j0 j1 => hi j j0 (by omega)), fun c => ⟨mt_I (by omega) (by omega), mt_I (by omega) (by omega), by omega, by omega, fun _ => ⟨i0, by omega, fun σ5 s5 => ⟨mt_I (by omega) (by omega), fun y e => ?_⟩⟩⟩⟩
    subst e
    refine ih (i + 1) σ5 (by omega) (by omega) (by omega) (fun j hj => by rw [s5, ml_up_k hj, f j hj]) (fun j j0 j1 => ?_)
    rw [s5]
    by_cases q : j = i
    · rw [q, ml_up_same, f 218 (by omega)]
    · rw [ml_up_i q]; exact hi j j0 (by omega)
theorem s_told91 {Q : Int → ml_St → Prop} {K : ml_St → Int → Int → Int → Prop} {w n m : Int} {τ0 : ml_St} (w0 : 0 ≤ w) (w1 : w < 16) (m0 : 0 ≤ m) (m1 : m ≤ 100) (k : ∀ τ, (∀ j, j ≠ 218 → τ j = τ0 j) → (∀ x, (x < 100 * w ∨ 100 * w + m ≤ x) → τ 218 x = τ0 218 x) → (∀ j, 0 ≤ j → j < m → τ 218 (100 * w + j) = τ0 233 j) → K τ w n m) : ∀ (N : Nat) (i : Int) (τ : ml_St), 0 ≤ i → i ≤ m → m - i < N → (∀ j, j ≠ 218 → τ j = τ0 j) → (∀ x, (x < 100 * w ∨ 100 * w + i ≤ x) → τ 218 x = τ0 218 x) → (∀ j, 0 ≤ j → j < i → τ 218 (100 * w + j) = τ0 233 j) → f_X12_told_u91 Q K N τ w n m i := by
  intro N
  induction N with
  | zero => intro i τ i0 i1 hN; omega
  | succ N ih =>
    intro i τ i0 i1 hN f lo hi
    unfold f_X12_told_u91
    refine ⟨fun c => ?_, fun c => ⟨mt_I (by omega) (by omega), mt_I (by omega) (by omega), i0, by omega, fun _ => ⟨by omega, by omega, fun σ5 s5 => ⟨mt_I (by omega) (by omega), fun y e => ?_⟩⟩⟩⟩
    · have : i = m := by omega
      subst this
      exact k τ f lo hi
    subst e
    refine ih (i + 1) σ5 (by omega) (by omega) (by omega) (fun j hj => by rw [s5, ml_up_k hj, f j hj]) (fun x hx => by rw [s5, ml_up_i (by omega)]; exact lo x (by omega)) (fun j j0 j1 => ?_)
    rw [s5]
    by_cases q : j = i
    · rw [q, ml_up_same, f 233 (by omega)]
    · rw [ml_up_i (by omega)]; exact hi j j0 (by omega)
/-- told: fault, too long, or done (the texts alone are then in place) -/
theorem s_told {Q : Int → ml_St → Prop} {h told ts cap w n m : Int} {tb cl pr sz : Int → Int} {T : Int → Int → Int} {τ0 : ml_St} (a : im_A h told τ0) (b : im_B ts tb τ0) (c : im_C h cap cl τ0) (d : im_D pr τ0) (e : im_E h told T sz τ0) (w0 : 0 ≤ w) (w1 : w ≤ told) (w16 : w < 16) (n1 : 1 ≤ n) (n100 : n ≤ 100) (nt : n ≤ ts) (em : τ0 219 w = m) (m0 : if w < told then m = sz w else m = 0)
    (k2 : mt_fl h w n tb ≠ 0 → mt_fl h w n tb < 0 → ∀ τ, IM h told 0 cap tb cl pr sz T τ → (∀ j, j < 215 → τ j = τ0 j) → Q (mt_fl h w n tb) τ)
    (k3 : mt_fl h w n tb = 0 → mt_mst < mt_ctw tb n mt_one (mt_cn mt_one T sz) → ∀ τ, IM h told 0 cap tb cl pr sz T τ → (∀ j, j < 215 → τ j = τ0 j) → Q (-5000 - n) τ)
    (k4 : mt_fl h w n tb = 0 → mt_ctw tb n mt_one (mt_cn mt_one T sz) ≤ mt_mst → ∀ τ, (∀ j, (j < 215 ∨ j = 216 ∨ j = 217 ∨ j = 220) → τ j = τ0 j) → (∀ x, 2 ≤ x → x ≤ 4 → τ 215 x = τ0 215 x) → τ 215 1 = 0 → (∀ v, 0 ≤ v → v < max told (w + 1) → im_T h (mt_sT T w tb) (mt_st sz w n) v τ) → Q 0 τ) : f_X12_told τ0 w n Q := by
  obtain ⟨a1, a2, h2, h5, t0, t16⟩ := a
  obtain ⟨b1, b2, b3, b4⟩ := b
  have mr : 0 ≤ m ∧ m ≤ 100 := by
    by_cases q : w < told
    · rw [if_pos q] at m0
      have := (e w w0 q).1.1
      have := this.1; have := (e w w0 q).1.1.2.1; omega
    · rw [if_neg q] at m0; omega
  unfold f_X12_told f_X12_told_u0
  intro σ1 s1
  have k1' : ∀ j, j ≠ 215 → σ1 j = τ0 j := fun j hj => by rw [s1, ml_up_k hj]
  have tI : ∀ i, 0 ≤ i → i < n → ml_I8 (σ1 216 i) := fun i i0 i1 => by rw [k1' 216 (by omega), (b4 i i0 (by omega)).1]; exact (b4 i i0 (by omega)).2
  have et : mt_teq n (σ1 216) tb := fun j j0 j1 => by rw [k1' 216 (by omega)]; exact (b4 j j0 (by omega)).1
  have eg : mt_gr (σ1 216) n h w (n.toNat + 1) 0 0 1 = mt_fl h w n tb := mt_gr_t et _ _ _ _ (Int.le_refl 0)
  -- an empty tape, and nothing else of note changed
  have emp : ∀ τ, (∀ j, (j < 215 ∨ (216 ≤ j ∧ j ≤ 222) ∨ (227 ≤ j ∧ j ≤ 231)) → τ j = τ0 j) → (∀ x, 2 ≤ x → x ≤ 4 → τ 215 x = τ0 215 x) → τ 215 1 = 0 → IM h told 0 cap tb cl pr sz T τ := by
    intro τ f fb z
    refine ⟨⟨by rw [fb 2 (by omega) (by omega), a1], by rw [fb 3 (by omega) (by omega), a2], h2, h5, t0, t16⟩, ⟨z, by omega, by omega, fun i i0 i1 => absurd i1 (by omega)⟩, ?_, ?_, fun v v0 v1 => ?_⟩
    · unfold im_C mt_jv; rw [fb 4 (by omega) (by omega), f 217 (by omega)]; exact c
    · unfold im_D; rw [f 220 (by omega)]; exact d
    · obtain ⟨x1, x2, x, x3, x4, x5⟩ := e v v0 v1
      refine ⟨?_, ?_, x, ?_, x4, x5⟩
      · unfold im_T; rw [f 218 (by omega), f 219 (by omega)]; exact x1
      · unfold im_N; rw [f 221 (by omega), f 222 (by omega)]; exact x2
      · unfold mt_mv; rw [f 227 (by omega), f 228 (by omega), f 229 (by omega), f 230 (by omega), f 231 (by omega)]; exact x3
  refine s_isText (by omega) n100 h2 h5 w0 (by omega) (by rw [s1, ml_up_i (by omega), a1]) tI (fun i' d' => ?_)
  rw [eg]
  have ems : ∀ j, j ≠ 215 → mt_ms σ1 i' n (mt_fl h w n tb) d' j = τ0 j := fun j hj => by rw [mt_ms_k hj, k1' j hj]
  have eb : ∀ x, 1 ≤ x → x ≤ 4 → mt_ms σ1 i' n (mt_fl h w n tb) d' 215 x = σ1 215 x := fun x x1 x4 => by
    unfold mt_ms; rw [if_pos rfl, if_neg (by omega), if_neg (by omega), if_neg (by omega), if_neg (by omega)]
  have eb2 : ∀ x, 2 ≤ x → x ≤ 4 → mt_ms σ1 i' n (mt_fl h w n tb) d' 215 x = τ0 215 x := fun x x1 x4 => by rw [eb x (by omega) x4, s1, ml_up_i (by omega)]
  have eb1 : mt_ms σ1 i' n (mt_fl h w n tb) d' 215 1 = 0 := by rw [eb 1 (by omega) (by omega), s1, ml_up_same]
  by_cases z : mt_fl h w n tb = 0
  · rw [if_pos z]
    refine fun _ => ⟨fun _ => ⟨w0, w16, ?_⟩, fun y => absurd y (by omega)⟩
    rw [ems 219 (by omega), em]
    intro _ y5 e5
    subst e5
    generalize hσ2 : mt_ms σ1 i' n (mt_fl h w n tb) d' = σ2 at *
    refine ⟨y5.toNat + 1, s_told29 w0 w16 mr.1 mr.2 (fun σ3 f3 h3 => ?_) _ 0 σ2 (by omega) mr.1 (by omega) (fun _ _ => rfl) (fun j j0 j1 => absurd j1 (by omega))⟩
    unfold f_X12_told_u60
    refine s_takesText w0 w16 (by omega) n100 (fun σ4 f4 g4 q4 lo4 hi4 => ?_)
    have f4' : ∀ j, j ≠ 215 → j ≠ 218 → j ≠ 219 → j ≠ 233 → σ4 j = τ0 j := fun j x1 x2 x3 x4 => by rw [f4 j x2 x3, f3 j x4, ems j x1]
    have lo4' : ∀ x, (x < 100 * w ∨ 100 * w + n ≤ x) → σ4 218 x = τ0 218 x := fun x hx => by rw [lo4 x hx, f3 218 (by omega), ems 218 (by omega)]
    have t4 : ∀ j, 0 ≤ j → j < n → σ4 218 (100 * w + j) = tb j := fun j j0 j1 => by rw [hi4 j j0 j1, f3 216 (by omega), ems 216 (by omega)]; exact (b4 j j0 (by omega)).1
    have gw : mt_good h w tb n := ⟨n1, n100, fun j j0 j1 => (b4 j j0 (by omega)).2, z⟩
    have sw : mt_sT T w tb w = tb ∧ mt_st sz w n w = n := ⟨if_pos rfl, if_pos rfl⟩
    have ne : ∀ v, v ≠ w → mt_sT T w tb v = T v ∧ mt_st sz w n v = sz v := fun v hv => ⟨if_neg hv, if_neg hv⟩
    have tx4 : ∀ v, 0 ≤ v → v < max told (w + 1) → im_T h (mt_sT T w tb) (mt_st sz w n) v σ4 := by
      intro v v0 v1
      by_cases q : v = w
      · subst q
        unfold im_T
        rw [sw.1, sw.2]
        exact ⟨gw, q4, t4⟩
      · obtain ⟨y1, y2, y3⟩ := (e v v0 (by omega)).1
        unfold im_T
        rw [(ne v q).1, (ne v q).2]
        refine ⟨y1, by rw [g4 v q, f3 219 (by omega), ems 219 (by omega), y2], fun j j0 j1 => ?_⟩
        have := y1.2.1
        rw [lo4' _ (by omega)]
        exact y3 j j0 j1
    have cn_lo : ∀ sg : Int → Int, ∀ v, 0 ≤ v → v < w → mt_cn sg (mt_sT T w tb) (mt_st sz w n) v = mt_cn sg T sz v := by
      intro sg v v0 v1
      have key : ∀ u : Nat, (u : Int) ≤ w → mt_cf sg (mt_sT T w tb) (mt_st sz w n) u = mt_cf sg T sz u := by
        intro u
        induction u with
        | zero => intro _; rfl
        | succ u ih =>
          intro hu
          unfold mt_cf
          rw [ih (by omega), (ne u (by omega)).1, (ne u (by omega)).2]
      unfold mt_cn
      rw [mt_cf_lo (v.toNat + 1) 16 v (by omega) (by omega), mt_cf_lo (v.toNat + 1) 16 v (by omega) (by omega), key (v.toNat + 1) (by omega)]
    have cw : ∀ sg : Int → Int, mt_cn sg (mt_sT T w tb) (mt_st sz w n) w = mt_ctw tb n sg (mt_cn sg T sz) := by
      intro sg
      have := mt_cn_e (h := h) (sg := sg) (T := mt_sT T w tb) (sz := mt_st sz w n) (w := w.toNat) (by omega) (by rw [show ((w.toNat : Nat) : Int) = w by omega, sw.1, sw.2]; exact gw)
      rw [show ((w.toNat : Nat) : Int) = w by omega, sw.1, sw.2] at this
      rw [this]
      exact mt_ct_t (h := h) (w := w) (by omega) (fun _ _ _ => rfl) (cn_lo sg) _ _ _ 1 _ (Int.le_refl 0) (by omega) z
    refine s_counts2 (T := mt_sT T w tb) (sz := mt_st sz w n) h5 w0 w16 (fun v v0 v1 => tx4 v v0 (by omega)) (fun v v0 v1 => ?_) (fun σ5 f5 fb5 fv5 n5 => ?_)
    · unfold im_N
      rw [f4' 221 (by omega) (by omega) (by omega) (by omega), f4' 222 (by omega) (by omega) (by omega) (by omega), cn_lo _ v v0 v1, cn_lo _ v v0 v1]
      exact (e v v0 (by omega)).2.1
    have gd : ∀ v : Nat, v ≤ w.toNat → mt_good h v (mt_sT T w tb v) (mt_st sz w n v) := fun v hv => (tx4 v (by omega) (by omega)).1
    have sx0 : ∀ c, 0 ≤ mt_sx c := fun c => by unfold mt_sx; split <;> omega
    have su0 : ∀ c, 0 ≤ mt_su c := fun c => by unfold mt_su; split <;> omega
    have c0 : ∀ (sg : Int → Int), (∀ c, 0 ≤ sg c) → 0 ≤ mt_cn sg (mt_sT T w tb) (mt_st sz w n) w := fun sg s0 => by
      have := mt_cn_0 (h := h) (T := mt_sT T w tb) (sz := mt_st sz w n) s0 w.toNat (by omega) gd
      rw [show ((w.toNat : Nat) : Int) = w by omega] at this
      exact this
    have cad : mt_cn mt_one (mt_sT T w tb) (mt_st sz w n) w = mt_cn mt_sx (mt_sT T w tb) (mt_st sz w n) w + mt_cn mt_su (mt_sT T w tb) (mt_st sz w n) w := by
      have := mt_cn_add (h := h) (T := mt_sT T w tb) (sz := mt_st sz w n) w.toNat (by omega) gd
      rw [show ((w.toNat : Nat) : Int) = w by omega] at this
      exact this
    rw [cw mt_one] at cad
    have f5' : ∀ j, j ≠ 215 → j ≠ 221 → j ≠ 222 → (j < 223 ∨ 226 < j) → σ5 j = σ4 j := fun j x1 x2 x3 x4 => f5 j x1 x2 x3 (by omega) (by omega) (by omega) (by omega)
    have b5 : ∀ x, 1 ≤ x → x ≤ 4 → σ5 215 x = σ2 215 x := fun x x1 x4 => by rw [fb5 x (by omega) (by omega), f4 215 (by omega) (by omega), f3 215 (by omega)]
    refine s_isTooLong12 w0 w16 n5.1 n5.2 (c0 _ sx0) (c0 _ su0) (fun big _ => ⟨fun _ => ⟨w0, w16, fun σ6 s6 => ?_⟩, fun y => absurd y (by omega)⟩) (fun sml _ => ⟨fun y => absurd rfl y, fun _ => ?_⟩)
    · -- too long: all back
      refine ⟨y5.toNat + 1, s_told91 w0 w16 mr.1 mr.2 (fun σ7 f7 lo7 hi7 => ?_) _ 0 σ6 (by omega) mr.1 (by omega) (fun _ _ => rfl) (fun _ _ => rfl) (fun j j0 j1 => absurd j1 (by omega))⟩
      have k6 : ∀ j, j ≠ 219 → σ6 j = σ5 j := fun j hj => by rw [s6, ml_up_k hj]
      have f7' : ∀ j, j ≠ 215 → j ≠ 218 → j ≠ 219 → j ≠ 221 → j ≠ 222 → (j < 223 ∨ (226 < j ∧ j ≠ 233)) → σ7 j = τ0 j := fun j x1 x2 x3 x4 x5 x6 => by
        rw [f7 j x2, k6 j x3, f5' j x1 x4 x5 (by omega), f4' j x1 x2 x3 (by omega)]
      have b7 : ∀ x, 1 ≤ x → x ≤ 4 → σ7 215 x = σ2 215 x := fun x x1 x4 => by rw [f7 215 (by omega), k6 215 (by omega), b5 x x1 x4]
      have v7 : ∀ v, σ7 219 v = if v = w then y5 else τ0 219 v := fun v => by
        rw [f7 219 (by omega), s6]
        by_cases q : v = w
        · rw [if_pos q, q, ml_up_same]
        · rw [if_neg q, ml_up_i q, f5' 219 (by omega) (by omega) (by omega) (by omega), g4 v q, f3 219 (by omega), ems 219 (by omega)]
      have x7 : ∀ v, 0 ≤ v → v < told → im_T h T sz v σ7 := by
        intro v v0 v1
        obtain ⟨y1, y2, y3⟩ := (e v v0 v1).1
        have y12 := y1.2.1
        refine ⟨y1, ?_, fun j j0 j1 => ?_⟩
        · rw [v7]
          by_cases q : v = w
          · subst q
            rw [if_pos v1] at m0
            rw [if_pos rfl]; exact m0
          · rw [if_neg q]; exact y2
        · by_cases q : v = w
          · subst q
            rw [if_pos v1] at m0
            rw [hi7 j j0 (by omega), k6 233 (by omega), f5' 233 (by omega) (by omega) (by omega) (by omega), f4 233 (by omega) (by omega), h3 j j0 (by omega), ems 218 (by omega)]
            exact y3 j j0 j1
          · rw [lo7 _ (by omega), k6 218 (by omega), f5' 218 (by omega) (by omega) (by omega) (by omega), lo4' _ (by omega)]
            exact y3 j j0 j1
      have n7 : ∀ v, 0 ≤ v → v < told → v ≠ w → im_N h T sz v σ7 := by
        intro v v0 v1 vw
        unfold im_N
        rw [f7 221 (by omega), f7 222 (by omega), k6 221 (by omega), k6 222 (by omega), (fv5 v vw).1, (fv5 v vw).2, f4' 221 (by omega) (by omega) (by omega) (by omega), f4' 222 (by omega) (by omega) (by omega) (by omega)]
        exact (e v v0 v1).2.1
      have IMof : ∀ τ, (∀ j, (j < 215 ∨ (216 ≤ j ∧ j ≤ 220) ∨ (227 ≤ j ∧ j ≤ 231)) → τ j = σ7 j) → (∀ x, 1 ≤ x → x ≤ 4 → τ 215 x = σ7 215 x) → (∀ v, 0 ≤ v → v < told → im_N h T sz v τ) → IM h told 0 cap tb cl pr sz T τ := by
        intro τ f fb hn
        have fj : ∀ j, (j < 215 ∨ j = 216 ∨ j = 217 ∨ j = 220 ∨ (227 ≤ j ∧ j ≤ 231)) → τ j = τ0 j := fun j hj => by rw [f j (by omega), f7' j (by omega) (by omega) (by omega) (by omega) (by omega) (by omega)]
        have fb' : ∀ x, 2 ≤ x → x ≤ 4 → τ 215 x = τ0 215 x := fun x x2 x4 => by rw [fb x (by omega) x4, b7 x (by omega) x4, eb2 x x2 x4]
        refine ⟨⟨by rw [fb' 2 (by omega) (by omega), a1], by rw [fb' 3 (by omega) (by omega), a2], h2, h5, t0, t16⟩, ⟨by rw [fb 1 (by omega) (by omega), b7 1 (by omega) (by omega), eb1], by omega, by omega, fun i i0 i1 => absurd i1 (by omega)⟩, ?_, ?_, fun v v0 v1 => ?_⟩
        · unfold im_C mt_jv; rw [fb' 4 (by omega) (by omega), fj 217 (by omega)]; exact c
        · unfold im_D; rw [fj 220 (by omega)]; exact d
        · obtain ⟨-, -, x, x3, x4, x5⟩ := e v v0 v1
          refine ⟨?_, hn v v0 v1, x, ?_, x4, x5⟩
          · unfold im_T; rw [f 218 (by omega), f 219 (by omega)]; exact x7 v v0 v1
          · unfold mt_mv; rw [fj 227 (by omega), fj 228 (by omega), fj 229 (by omega), fj 230 (by omega), fj 231 (by omega)]; exact x3
      have bigc : mt_mst < mt_ctw tb n mt_one (mt_cn mt_one T sz) := by omega
      unfold f_X12_told_u122
      refine ⟨fun y => ?_, fun y => ?_⟩
      · unfold f_X12_told_u131
        have wt : ¬ w < told := fun q => by
          rw [if_pos q] at m0
          have := (e w w0 q).1.1.1
          omega
        exact ⟨mt_I (by omega) (by omega), k3 z bigc σ7 (IMof σ7 (fun _ _ => rfl) (fun _ _ _ => rfl) (fun v v0 v1 => n7 v v0 v1 (by omega))) (fun j hj => f7' j (by omega) (by omega) (by omega) (by omega) (by omega) (by omega))⟩
      · have wt : w < told := by
          rcases Int.lt_or_le w told with q | q
          · exact q
          · rw [if_neg (by omega)] at m0; omega
        refine s_counts2 (T := T) (sz := sz) h5 w0 w16 (fun v v0 v1 => x7 v v0 (by omega)) (fun v v0 v1 => n7 v v0 (by omega) (by omega)) (fun σ8 f8 fb8 fv8 n8 => ?_)
        unfold f_X12_told_u131
        refine ⟨mt_I (by omega) (by omega), k3 z bigc σ8 (IMof σ8 (fun j hj => f8 j (by omega) (by omega) (by omega) (by omega) (by omega) (by omega) (by omega)) (fun x x1 x4 => fb8 x (by omega) (by omega)) (fun v v0 v1 => ?_)) (fun j hj => by rw [f8 j (by omega) (by omega) (by omega) (by omega) (by omega) (by omega) (by omega)]; exact f7' j (by omega) (by omega) (by omega) (by omega) (by omega) (by omega))⟩
        by_cases q : v = w
        · rw [q]; exact n8
        · unfold im_N; rw [(fv8 v q).1, (fv8 v q).2]; exact n7 v v0 v1 q
    · refine k4 z (by omega) σ5 (fun j hj => by rw [f5' j (by omega) (by omega) (by omega) (by omega), f4' j (by omega) (by omega) (by omega) (by omega)]) (fun x x2 x4 => by rw [b5 x (by omega) x4, eb2 x x2 x4]) (by rw [b5 1 (by omega) (by omega), eb1]) (fun v v0 v1 => ?_)
      unfold im_T
      rw [f5' 218 (by omega) (by omega) (by omega) (by omega), f5' 219 (by omega) (by omega) (by omega) (by omega)]
      exact tx4 v v0 v1
  · rw [if_neg z]
    have lt : mt_fl h w n tb < 0 := by
      have := mt_gr_le (t := tb) (n := n) (h := h) (w := w) (n.toNat + 1) 0 0 1 (by omega) (Int.le_refl 0)
      unfold mt_fl at z ⊢
      omega
    refine fun _ => ⟨fun y => absurd rfl y, fun _ => ?_⟩
    have e11 : mt_ms σ1 i' n (mt_fl h w n tb) d' 215 11 = mt_fl h w n tb := rfl
    rw [e11]
    exact fun _ => k2 z lt _ (emp _ (fun j hj => ems j (by omega)) eb2 eb1) (fun j hj => ems j (by omega))
