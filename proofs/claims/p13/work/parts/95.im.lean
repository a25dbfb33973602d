/-! the model: what it keeps between calls -/
def im_A (h told : Int) (τ : ml_St) : Prop := τ 215 2 = h ∧ τ 215 3 = told ∧ 2 ≤ h ∧ h ≤ 5 ∧ 0 ≤ told ∧ told ≤ 16
def im_B (ts : Int) (tb : Int → Int) (τ : ml_St) : Prop := τ 215 1 = ts ∧ 0 ≤ ts ∧ ts ≤ 200 ∧ ∀ i, 0 ≤ i → i < ts → τ 216 i = tb i ∧ ml_I8 (tb i)
def im_C (h cap : Int) (cl : Int → Int) (τ : ml_St) : Prop := τ 215 4 = cap ∧ (cap = 0 ∨ cap = 1) ∧ mt_jv h τ cl ∧ mt_M h cl
def im_D (pr : Int → Int) (τ : ml_St) : Prop := ∀ w, 0 ≤ w → w < 16 → τ 220 w = pr w ∧ 1 ≤ pr w ∧ pr w ≤ 1000
def im_T (h : Int) (T : Int → Int → Int) (sz : Int → Int) (w : Int) (τ : ml_St) : Prop := mt_good h w (T w) (sz w) ∧ τ 219 w = sz w ∧ (∀ j, 0 ≤ j → j < sz w → τ 218 (100 * w + j) = T w j)
def im_N (h : Int) (T : Int → Int → Int) (sz : Int → Int) (w : Int) (τ : ml_St) : Prop := τ 221 w = min mt_top (mt_cn mt_sx T sz w) ∧ τ 222 w = min mt_top (mt_cn mt_su T sz w)
def im_W (h : Int) (T : Int → Int → Int) (sz : Int → Int) (w : Int) (τ : ml_St) : Prop := ∃ x, mt_mv h τ w x ∧ mt_M h x ∧ (mt_cn mt_one T sz w ≤ mt_mst → mt_weq h x (mt_mk h T sz w))
def im_E (h told : Int) (T : Int → Int → Int) (sz : Int → Int) (τ : ml_St) : Prop := ∀ w, 0 ≤ w → w < told → im_T h T sz w τ ∧ im_N h T sz w τ ∧ im_W h T sz w τ
def IM (h told ts cap : Int) (tb cl pr sz : Int → Int) (T : Int → Int → Int) (τ : ml_St) : Prop := im_A h told τ ∧ im_B ts tb τ ∧ im_C h cap cl τ ∧ im_D pr τ ∧ im_E h told T sz τ
/-- weaves of words stay -/
def mt_kw (τ τ' : ml_St) : Prop := ∀ m, 0 ≤ m → m < 16 → (∀ e, 0 ≤ e → e < 10 → τ' 227 (10 * m + e) = τ 227 (10 * m + e) ∧ τ' 228 (10 * m + e) = τ 228 (10 * m + e)) ∧ τ' 229 m = τ 229 m ∧ τ' 230 m = τ 230 m ∧ τ' 231 m = τ 231 m
def mt_kq (τ τ' : ml_St) : Prop := (∀ b, 1 ≤ b → b ≤ 4 → τ' 215 b = τ 215 b) ∧ (∀ j, 216 ≤ j → j ≤ 222 → τ' j = τ j) ∧ mt_kw τ τ' ∧ (∀ j, j < 215 → τ' j = τ j)
theorem mt_kw_r {τ : ml_St} : mt_kw τ τ := fun _ _ _ => ⟨fun _ _ _ => ⟨rfl, rfl⟩, rfl, rfl, rfl⟩
theorem mt_kw_t {τ τ1 τ2 : ml_St} (a : mt_kw τ τ1) (b : mt_kw τ1 τ2) : mt_kw τ τ2 := fun m m0 m1 => by
  obtain ⟨x1, x2, x3, x4⟩ := a m m0 m1
  obtain ⟨y1, y2, y3, y4⟩ := b m m0 m1
  exact ⟨fun e e0 e1 => ⟨(y1 e e0 e1).1.trans (x1 e e0 e1).1, (y1 e e0 e1).2.trans (x1 e e0 e1).2⟩, y2.trans x2, y3.trans x3, y4.trans x4⟩
theorem mt_kw_k {τ τ' : ml_St} (e1 : τ' 227 = τ 227) (e2 : τ' 228 = τ 228) (e3 : τ' 229 = τ 229) (e4 : τ' 230 = τ 230) (e5 : τ' 231 = τ 231) : mt_kw τ τ' := fun m _ _ => by rw [e1, e2, e3, e4, e5]; exact ⟨fun _ _ _ => ⟨rfl, rfl⟩, rfl, rfl, rfl⟩
theorem mt_kw_mv {h m : Int} {τ τ' : ml_St} {v : Int → Int} (h5 : h ≤ 5) (m0 : 0 ≤ m) (m1 : m < 16) (f : mt_kw τ τ') (w : mt_mv h τ m v) : mt_mv h τ' m v := by
  obtain ⟨x1, x2, x3, x4⟩ := f m m0 m1
  refine ⟨fun e e0 e1 => ?_, x2.trans w.2.1, x3.trans w.2.2.1, x4.trans w.2.2.2⟩
  exact ⟨(x1 e e0 (by omega)).1.trans (w.1 e e0 e1).1, (x1 e e0 (by omega)).2.trans (w.1 e e0 e1).2⟩
theorem mt_kw_mf {c : Int} {τ τ' : ml_St} (c16 : 16 ≤ c) (f : mt_mf c τ τ') : mt_kw τ τ' := fun m m0 m1 => ⟨fun e e0 e1 => f.2.2.1 _ (by omega), (f.2.2.2 m (by omega)).1, (f.2.2.2 m (by omega)).2.1, (f.2.2.2 m (by omega)).2.2⟩
theorem mt_kq_r {τ : ml_St} : mt_kq τ τ := ⟨fun _ _ _ => rfl, fun _ _ _ => rfl, mt_kw_r, fun _ _ => rfl⟩
theorem mt_kq_t {τ τ1 τ2 : ml_St} (a : mt_kq τ τ1) (b : mt_kq τ1 τ2) : mt_kq τ τ2 := ⟨fun c h1 h2 => by rw [b.1 c h1 h2, a.1 c h1 h2], fun j h1 h2 => by rw [b.2.1 j h1 h2, a.2.1 j h1 h2], mt_kw_t a.2.2.1 b.2.2.1, fun j hj => by rw [b.2.2.2 j hj, a.2.2.2 j hj]⟩
theorem mt_kq_mf {c : Int} {τ τ' : ml_St} (c16 : 16 ≤ c) (f : mt_mf c τ τ') : mt_kq τ τ' := ⟨fun b h1 h2 => f.2.1 b (by omega), fun j h1 h2 => f.1 j (by omega) (by omega) (by omega) (by omega) (by omega) (by omega) (by omega), mt_kw_mf c16 f, fun j hj => f.1 j (by omega) (by omega) (by omega) (by omega) (by omega) (by omega) (by omega)⟩
/-- other objects change alone -/
theorem mt_kq_o {τ τ' : ml_St} (f : ∀ j, j < 215 ∨ (216 ≤ j ∧ j ≤ 222) ∨ (227 ≤ j ∧ j ≤ 231) → τ' j = τ j) (b : ∀ b, 1 ≤ b → b ≤ 4 → τ' 215 b = τ 215 b) : mt_kq τ τ' := ⟨b, fun j h1 h2 => f j (by omega), mt_kw_k (f 227 (by omega)) (f 228 (by omega)) (f 229 (by omega)) (f 230 (by omega)) (f 231 (by omega)), fun j hj => f j (by omega)⟩
theorem IM_kq {h told ts cap : Int} {tb cl pr sz : Int → Int} {T : Int → Int → Int} {τ τ' : ml_St} (f : mt_kq τ τ') (i : IM h told ts cap tb cl pr sz T τ) : IM h told ts cap tb cl pr sz T τ' := by
  obtain ⟨a, b, c, d, e⟩ := i
  obtain ⟨fb, fj, fw, -⟩ := f
  obtain ⟨a1, a2, a3, h5, a5, t16⟩ := id a
  refine ⟨?_, ?_, ?_, ?_, fun w w0 w1 => ?_⟩
  · unfold im_A; rw [fb 2 (by omega) (by omega), fb 3 (by omega) (by omega)]; exact a
  · unfold im_B; rw [fb 1 (by omega) (by omega), fj 216 (by omega) (by omega)]; exact b
  · unfold im_C mt_jv; rw [fb 4 (by omega) (by omega), fj 217 (by omega) (by omega)]; exact c
  · unfold im_D; rw [fj 220 (by omega) (by omega)]; exact d
  · obtain ⟨x1, x2, x, x3, x4, x5⟩ := e w w0 w1
    refine ⟨?_, ?_, x, mt_kw_mv h5 w0 (by omega) fw x3, x4, x5⟩
    · unfold im_T; rw [fj 218 (by omega) (by omega), fj 219 (by omega) (by omega)]; exact x1
    · unfold im_N; rw [fj 221 (by omega) (by omega), fj 222 (by omega) (by omega)]; exact x2
theorem s_signsOf {Q : Int → ml_St → Prop} {w x y : Int} {τ : ml_St} (w0 : 0 ≤ w) (w1 : w < 16) (e1 : τ 221 w = min mt_top x) (e2 : τ 222 w = min mt_top y) (x0 : 0 ≤ x) (y0 : 0 ≤ y) (k : Q (min mt_top (x + y)) τ) : f_X12_signsOf τ w Q := by
  unfold f_X12_signsOf f_X12_signsOf_u0
  exact ⟨w0, w1, fun _ => ⟨w0, w1, fun _ => s_plus e1 e2 x0 y0 (fun _ _ => k)⟩⟩
theorem s_isTooLong12 {Q : Int → ml_St → Prop} {w x y : Int} {τ : ml_St} (w0 : 0 ≤ w) (w1 : w < 16) (e1 : τ 221 w = min mt_top x) (e2 : τ 222 w = min mt_top y) (x0 : 0 ≤ x) (y0 : 0 ≤ y) (k1 : mt_mst < x + y → Q 1 τ) (k0 : x + y ≤ mt_mst → Q 0 τ) : f_X12_isTooLong τ w Q := by
  unfold f_X12_isTooLong f_X12_isTooLong_u0
  unfold f_X12_isTooLong_u17
  refine s_signsOf w0 w1 e1 e2 x0 y0 (fun _ => ⟨fun c => k0 ?_, fun c => k1 ?_⟩)
  · unfold mt_mst mt_top at *; omega
  · unfold mt_mst mt_top at *; omega
/-- counts of a word whose TEXT stands in the store -/
theorem s_counts2 {Q : ml_St → Prop} {h w : Int} {T : Int → Int → Int} {sz : Int → Int} {τ0 : ml_St} (h5 : h ≤ 5) (w0 : 0 ≤ w) (w1 : w < 16) (tx : ∀ v, 0 ≤ v → v ≤ w → im_T h T sz v τ0) (nn : ∀ v, 0 ≤ v → v < w → im_N h T sz v τ0) (k : ∀ τ, (∀ j, j ≠ 215 → j ≠ 221 → j ≠ 222 → j ≠ 223 → j ≠ 224 → j ≠ 225 → j ≠ 226 → τ j = τ0 j) → (∀ b, b ≠ 19 → b ≠ 20 → τ 215 b = τ0 215 b) → (∀ v, v ≠ w → τ 221 v = τ0 221 v ∧ τ 222 v = τ0 222 v) → im_N h T sz w τ → Q τ) : f_X12_counts τ0 w Q := by
  obtain ⟨g, s1, s2⟩ := tx w w0 (Int.le_refl w)
  have et : mt_teq (sz w) (T w) (fun j => τ0 218 (100 * w + j)) := fun j j0 j1 => (s2 j j0 j1).symm
  have g' := mt_good_c et g
  have gd : ∀ v : Nat, v ≤ w.toNat → mt_good h v (T v) (sz v) := fun v hv => (tx v (by omega) (by omega)).1
  have c0 : ∀ (sg : Int → Int), (∀ c, 0 ≤ sg c) → ∀ v, 0 ≤ v → v < w → 0 ≤ mt_cn sg T sz v := fun sg s0 v v0 v1 => by
    have := mt_cn_0 (h := h) (T := T) (sz := sz) s0 v.toNat (by omega) (fun u hu => gd u (by omega))
    rw [show ((v.toNat : Nat) : Int) = v by omega] at this
    exact this
  have sx0 : ∀ c, 0 ≤ mt_sx c := fun c => by unfold mt_sx; split <;> omega
  have su0 : ∀ c, 0 ≤ mt_su c := fun c => by unfold mt_su; split <;> omega
  have ec : ∀ sg : Int → Int, mt_ctw (fun j => τ0 218 (100 * w + j)) (sz w) sg (mt_cn sg T sz) = mt_cn sg T sz w := fun sg => by
    have := mt_cn_e (h := h) (sg := sg) (T := T) (sz := sz) (w := w.toNat) (by omega) (by rw [show ((w.toNat : Nat) : Int) = w by omega]; exact g)
    rw [show ((w.toNat : Nat) : Int) = w by omega] at this
    rw [this]
    exact (mt_ct_t (h := h) (w := w) (by have := g.1; omega) et (fun _ _ _ => rfl) _ _ _ 1 _ (Int.le_refl 0) (by have := g.1; omega) g.2.2.2).symm
  refine s_counts (h := h) (cx := mt_cn mt_sx T sz) (cu := mt_cn mt_su T sz) w0 w1 h5 (by have := g.1; omega) g.2.1 s1 g'.2.2.1 g'.2.2.2 (fun v v0 v1 => ⟨c0 _ sx0 v v0 v1, (nn v v0 v1).1, c0 _ su0 v v0 v1, (nn v v0 v1).2⟩) (fun τ f1 f2 f3 f4 f5 => k τ f1 f2 f3 ⟨?_, ?_⟩)
  · rw [f4, ec]
  · rw [f5, ec]
theorem s_all {Q : ml_St → Prop} {h told : Int} {T : Int → Int → Int} {sz : Int → Int} {τ0 : ml_St} (a : im_A h told τ0) (tx : ∀ v, 0 ≤ v → v < told → im_T h T sz v τ0) (k : ∀ τ, (∀ j, (j < 215 ∨ (216 ≤ j ∧ j ≤ 220)) → τ j = τ0 j) → (∀ b, 1 ≤ b → b ≤ 4 → τ 215 b = τ0 215 b) → im_E h told T sz τ → Q τ) : f_X12_all τ0 Q := by
  obtain ⟨a1, a2, h2, h5, t0, t16⟩ := a
  have gd : ∀ v : Nat, (v : Int) < told → mt_good h v (T v) (sz v) := fun v hv => (tx v (by omega) (by omega)).1
  have L : ∀ (N : Nat) (w : Int) (τ : ml_St), 0 ≤ w → w ≤ told → told - w < N → (∀ j, (j < 215 ∨ (216 ≤ j ∧ j ≤ 220)) → τ j = τ0 j) → (∀ b, 1 ≤ b → b ≤ 4 → τ 215 b = τ0 215 b) → (∀ v, 0 ≤ v → v < w → im_N h T sz v τ ∧ im_W h T sz v τ) → f_X12_all_u2 Q (f_X12_all_u42 Q) N τ w := by
    intro N
    induction N with
    | zero => intro w τ w0 w1 hN; omega
    | succ N ih =>
      intro w τ w0 w1 hN f fb hv
      have e3 : τ 215 3 = told := by rw [fb 3 (by omega) (by omega), a2]
      have txτ : ∀ τ : ml_St, τ 218 = τ0 218 → τ 219 = τ0 219 → ∀ v, 0 ≤ v → v < told → im_T h T sz v τ := fun τ e1 e2 v v0 v1 => by unfold im_T; rw [e1, e2]; exact tx v v0 v1
      unfold f_X12_all_u2
      rw [e3]
      refine fun _ => ⟨fun c => ?_, fun c => ?_⟩
      · unfold f_X12_all_u42
        exact k τ f fb (fun v v0 v1 => ⟨txτ τ (f 218 (by omega)) (f 219 (by omega)) v v0 v1, hv v v0 (by omega)⟩)
      have hw : w < 16 := by omega
      refine s_counts2 h5 w0 hw (fun v v0 v1 => txτ τ (f 218 (by omega)) (f 219 (by omega)) v v0 (by omega)) (fun v v0 v1 => (hv v v0 v1).1) (fun τ1 f1 fb1 fv1 n1 => ?_)
      have tx1 := txτ τ1 (by rw [f1 218 (by omega) (by omega) (by omega) (by omega) (by omega) (by omega) (by omega), f 218 (by omega)]) (by rw [f1 219 (by omega) (by omega) (by omega) (by omega) (by omega) (by omega) (by omega), f 219 (by omega)])
      have sx0 : ∀ c, 0 ≤ mt_sx c := fun c => by unfold mt_sx; split <;> omega
      have su0 : ∀ c, 0 ≤ mt_su c := fun c => by unfold mt_su; split <;> omega
      have so0 : ∀ c, 0 ≤ mt_one c := fun c => by unfold mt_one; omega
      have cn0 : ∀ (sg : Int → Int), (∀ c, 0 ≤ sg c) → ∀ v, 0 ≤ v → v ≤ w → 0 ≤ mt_cn sg T sz v := fun sg s0 v v0 v1 => by
        have := mt_cn_0 (h := h) (T := T) (sz := sz) s0 v.toNat (by omega) (fun u hu => gd u (by omega))
        rw [show ((v.toNat : Nat) : Int) = v by omega] at this
        exact this
      have cad : mt_cn mt_one T sz w = mt_cn mt_sx T sz w + mt_cn mt_su T sz w := by
        have := mt_cn_add (h := h) (T := T) (sz := sz) w.toNat (by omega) (fun u hu => gd u (by omega))
        rw [show ((w.toNat : Nat) : Int) = w by omega] at this
        exact this
      have kw1 : mt_kw τ τ1 := mt_kw_k (f1 _ (by omega) (by omega) (by omega) (by omega) (by omega) (by omega) (by omega)) (f1 _ (by omega) (by omega) (by omega) (by omega) (by omega) (by omega) (by omega)) (f1 _ (by omega) (by omega) (by omega) (by omega) (by omega) (by omega) (by omega)) (f1 _ (by omega) (by omega) (by omega) (by omega) (by omega) (by omega) (by omega)) (f1 _ (by omega) (by omega) (by omega) (by omega) (by omega) (by omega) (by omega))
      have hv1 : ∀ v, 0 ≤ v → v < w → im_N h T sz v τ1 ∧ im_W h T sz v τ1 := fun v v0 v1 => by
        obtain ⟨y1, x, y2, y3, y4⟩ := hv v v0 v1
        refine ⟨?_, x, mt_kw_mv h5 v0 (by omega) kw1 y2, y3, y4⟩
        unfold im_N; rw [(fv1 v (by omega)).1, (fv1 v (by omega)).2]; exact y1
      have nx : ∀ τ', (∀ j, (j < 215 ∨ (216 ≤ j ∧ j ≤ 222)) → τ' j = τ1 j) → (∀ b, 1 ≤ b → b ≤ 4 → τ' 215 b = τ1 215 b) → (∀ v, 0 ≤ v → v < w → im_W h T sz v τ') → im_W h T sz w τ' → f_X12_all_u36 Q (f_X12_all_u2 Q (f_X12_all_u42 Q) N) τ' w := by
        intro τ' f' fb' hv' hw'
        unfold f_X12_all_u36
        refine ⟨mt_I (by omega) (by omega), fun y e => ?_⟩
        subst e
        refine ih (w + 1) τ' (by omega) (by omega) (by omega) (fun j hj => by rw [f' j (by omega), f1 j (by omega) (by omega) (by omega) (by omega) (by omega) (by omega) (by omega), f j hj]) (fun b b1 b2 => by rw [fb' b b1 b2, fb1 b (by omega) (by omega), fb b b1 b2]) (fun v v0 v1 => ?_)
        have nv : im_N h T sz v τ' := by
          unfold im_N; rw [f' 221 (by omega), f' 222 (by omega)]
          by_cases q : v = w
          · rw [q]; exact n1
          · exact (hv1 v v0 (by omega)).1
        by_cases q : v = w
        · refine ⟨nv, ?_⟩; rw [q]; exact hw'
        · exact ⟨nv, hv' v v0 (by omega)⟩
      have h1 : τ1 215 2 = h := by rw [fb1 2 (by omega) (by omega), fb 2 (by omega) (by omega), a1]
      refine s_isTooLong12 w0 hw n1.1 n1.2 (cn0 _ sx0 w w0 (Int.le_refl w)) (cn0 _ su0 w w0 (Int.le_refl w)) (fun big _ => ⟨fun z => absurd z (by omega), fun _ => ?_⟩) (fun sml _ => ⟨fun _ => ?_, fun z => absurd rfl z⟩)
      · refine s_straight h2 h5 ⟨w0, by omega⟩ h1 (fun τ2 f2 w2 => nx τ2 (fun j hj => f2.1 j (by omega) (by omega) (by omega) (by omega) (by omega) (by omega) (by omega)) (fun b b1 b2 => f2.2.1 b (by omega)) (fun v v0 v1 => ?_) ⟨_, w2, mt_str_M h5, fun z => by omega⟩)
        obtain ⟨-, x, y2, y3, y4⟩ := hv1 v v0 v1
        exact ⟨x, mt_mv_f h5 f2 (by omega) y2, y3, y4⟩
      · obtain ⟨g, s1, s2⟩ := tx1 w w0 (by omega)
        have et : mt_teq (sz w) (T w) (fun j => τ1 218 (100 * w + j)) := fun j j0 j1 => (s2 j j0 j1).symm
        have g' := mt_good_c et g
        have mko : ∀ v, 0 ≤ v → v < w → mt_M h (mt_mk h T sz v) ∧ mt_ok h (mt_mk h T sz v) := fun v v0 v1 => by
          have := mt_mk_ok (T := T) (sz := sz) h5 v.toNat (by omega) (fun u hu => gd u (by omega))
          rw [show ((v.toNat : Nat) : Int) = v by omega] at this
          exact this
        have ec : mt_ctw (fun j => τ1 218 (100 * w + j)) (sz w) mt_one (mt_cn mt_one T sz) = mt_cn mt_one T sz w := by
          have := mt_cn_e (h := h) (sg := mt_one) (T := T) (sz := sz) (w := w.toNat) (by omega) (by rw [show ((w.toNat : Nat) : Int) = w by omega]; exact g)
          rw [show ((w.toNat : Nat) : Int) = w by omega] at this
          rw [this]
          exact (mt_ct_t (h := h) (w := w) (by have := g.1; omega) et (fun _ _ _ => rfl) _ _ _ 1 _ (Int.le_refl 0) (by have := g.1; omega) g.2.2.2).symm
        have ew : mt_wo (fun j => τ1 218 (100 * w + j)) (sz w) h (mt_mk h T sz) = mt_mk h T sz w := by
          have := mt_mk_e (h := h) (T := T) (sz := sz) (w := w.toNat) (by omega) (by rw [show ((w.toNat : Nat) : Int) = w by omega]; exact g)
          rw [show ((w.toNat : Nat) : Int) = w by omega] at this
          rw [this]
          exact (mt_we_t (w := w) (by have := g.1; omega) et (fun _ _ _ => rfl) _ _ _ 1 _ (Int.le_refl 0) (by have := g.1; omega) g.2.2.2).symm
        refine s_makes (mk := mt_mk h T sz) (T := mt_cn mt_one T sz) w0 hw h2 h5 (by have := g.1; omega) g.2.1 h1 s1 g'.2.2.1 g'.2.2.2 (fun v v0 v1 => ⟨(mko v v0 v1).1, (mko v v0 v1).2, cn0 _ so0 v v0 (by omega), (hv1 v v0 v1).2⟩) (fun τ2 r f2 e20 w2 r2 q2 => ?_)
        rw [ec, ew] at q2
        have f2' : ∀ j, (j < 215 ∨ (216 ≤ j ∧ j ≤ 222)) → τ2 j = τ1 j := fun j hj => by
          have := f2.1 j (by omega) (by omega) (by omega) (by omega) (by omega) (by omega) (by omega)
          rw [ml_up_k (by omega)] at this
          exact this
        refine nx τ2 f2' (fun b b1 b2 => ?_) (fun v v0 v1 => ?_) ⟨r, w2, r2, q2⟩
        · have := f2.2.1 b (by omega) (by omega)
          rw [ml_up_i (by omega)] at this
          exact this
        · obtain ⟨-, x, y2, y3, y4⟩ := hv1 v v0 v1
          have := mt_mv_p h5 f2 (by omega) y2
          refine ⟨x, ?_, y3, y4⟩
          unfold mt_mv at this ⊢
          rw [ml_up_k (by omega), ml_up_k (by omega), ml_up_k (by omega), ml_up_k (by omega), ml_up_k (by omega)] at this
          exact this
  unfold f_X12_all f_X12_all_u0
  exact ⟨20, L 20 0 τ0 (by omega) t0 (by omega) (fun _ _ => rfl) (fun _ _ _ => rfl) (fun v v0 v1 => absurd v1 (by omega))⟩
