/-! the class: what it keeps between calls -/
theorem mt_tx115 : ml_tx 115 := ⟨by decide, by decide, by decide +kernel⟩
theorem mt_txw {w : Int} (w0 : 0 ≤ w) (w1 : w < 16) : ml_tx (120 + 6 * w) := by
  have k : ∀ n : Nat, n < 16 → ml_lay (120 + 6 * (n : Int)) = (2, 100) := by decide +kernel
  have := k w.toNat (by omega)
  rw [show ((w.toNat : Nat) : Int) = w by omega] at this
  exact ⟨by omega, by omega, this⟩
def ic_A (h told : Int) (σ : ml_St) : Prop := σ 1 11 = h ∧ σ 1 12 = told ∧ 2 ≤ h ∧ h ≤ 5 ∧ 0 ≤ told ∧ told ≤ 16
def ic_B (ts : Int) (tb : Int → Int) (σ : ml_St) : Prop := σ 2 1 = ts ∧ 0 ≤ ts ∧ ts ≤ 200 ∧ ∀ i, 0 ≤ i → i < ts → 0 ≤ σ 3 i ∧ σ 3 i ≤ 255 ∧ b_i2b (σ 3 i) = tb i
def ic_C (h cap : Int) (cl : Int → Int) (σ : ml_St) : Prop := σ 4 1 = cap ∧ (cap = 0 ∨ cap = 1) ∧ mt_eq h (σ 5) cl ∧ mt_M h cl ∧ (cap = 0 → mt_eq h cl (mt_str h))
def ic_D (pr : Int → Int) (σ : ml_St) : Prop := ∀ w, 0 ≤ w → w < 16 → σ (119 + 6 * w) 3 = pr w ∧ 1 ≤ pr w ∧ pr w ≤ 1000
def mt_pl (t : Int → Int) : Nat → Int
  | 0 => 1
  | k + 1 => if mt_pl t k = 0 then 0 else if t k = 120 ∨ t k = 117 ∨ (48 ≤ t k ∧ t k ≤ 57) then 1 else 0
/-- word w's TEXT stands in the store -/
def ic_T (h : Int) (T : Int → Int → Int) (sz : Int → Int) (w : Int) (σ : ml_St) : Prop := mt_good h w (T w) (sz w) ∧ σ (119 + 6 * w) 1 = sz w ∧ mt_teq (sz w) (σ (120 + 6 * w)) (T w) ∧ σ (119 + 6 * w) 2 = mt_pl (T w) (sz w).toNat
def ic_E (h told : Int) (T : Int → Int → Int) (sz : Int → Int) (σ : ml_St) : Prop := ∀ w, 0 ≤ w → w < told → ic_T h T sz w σ ∧ mt_wv h σ (121 + 6 * w) (mt_mk h T sz w)
/-- the rows written out: of a word that is marked so, its first signs -/
def ic_w1 (T : Int → Int → Int) (sz : Int → Int) (w : Int) (σ : ml_St) : Prop := σ (119 + 6 * w) 6 = min 2000 (mt_cn mt_one T sz w) ∧ ∀ j, 0 ≤ j → j < σ (119 + 6 * w) 6 → σ (124 + 6 * w) j = mt_ex T sz w j
def ic_R (told : Int) (T : Int → Int → Int) (sz : Int → Int) (σ : ml_St) : Prop := ∀ w, 0 ≤ w → w < 16 → (0 ≤ σ (119 + 6 * w) 6 ∧ σ (119 + 6 * w) 6 ≤ 2000) ∧ (w < told → σ (119 + 6 * w) 7 ≠ 0 → ic_w1 T sz w σ)
theorem mt_pl_c {t t' : Int → Int} : ∀ n : Nat, (∀ k : Nat, k < n → t k = t' k) → mt_pl t n = mt_pl t' n := by
  intro n
  induction n with
  | zero => intro _; rfl
  | succ n ih => intro e; unfold mt_pl; rw [ih (fun k hk => e k (by omega)), e n (by omega)]
theorem mt_pl_01 {t : Int → Int} : ∀ n : Nat, mt_pl t n = 0 ∨ mt_pl t n = 1 := by
  intro n
  cases n with
  | zero => exact Or.inr rfl
  | succ n => unfold mt_pl; (repeat' split) <;> omega
theorem s_setText {Q : ml_St → Prop} {th n : Int} {σ : ml_St} (t9 : 116 < th) (n0 : 0 ≤ n) (n1 : n ≤ 100) (k : ∀ σ', (∀ j, j ≠ th → j ≠ th + 1 → σ' j = σ j) → (∀ b, b ≠ 1 → b ≠ 2 → σ' th b = σ th b) → σ' th 1 = n → mt_teq n (σ' (th + 1)) (σ 115) → σ' th 2 = mt_pl (σ 115) n.toNat → Q σ') : f_X10_setText σ th 115 n Q := by
  unfold f_X10_setText f_X10_setText_u0
  refine ⟨by omega, by omega, n0, by omega, by omega, fun σ1 s1 σ2 s2 σ3 s3 => ⟨n.toNat + 1, ?_⟩⟩
  have L : ∀ (N : Nat) (i : Nat) (τ : ml_St), (i : Int) ≤ n → n - i < N → (∀ j, j ≠ th → τ j = σ3 j) → (∀ b, b ≠ 2 → τ th b = σ3 th b) → τ th 2 = mt_pl (σ 115) i → f_X10_setText_u23 Q (f_X10_setText_u84 Q th 115) th 115 N τ n i := by
    intro N
    induction N with
    | zero => intro i τ hi hN; omega
    | succ N ih =>
      intro i τ hi hN f1 f2 e2
      have tx : i < n.toNat → τ (th + 1) i = σ 115 i := fun c => by rw [f1 _ (by omega), s3, ml_up_k (by omega), s2, ml_up_k (by omega), s1, mt_cpy2, if_pos ⟨rfl, by omega, by omega⟩]; congr 1; omega
      unfold f_X10_setText_u23
      refine ⟨fun c => ?_, fun c => ?_⟩
      · have : i = n.toNat := by omega
        subst this
        unfold f_X10_setText_u84
        refine k τ (fun j h1 h2 => ?_) (fun b h1 h2 => ?_) ?_ (fun j j0 j1 => ?_) e2
        · rw [f1 j h1, s3, ml_up_k h1, s2, ml_up_k h1, s1, mt_cpy_k h2]
        · rw [f2 b h2, s3, ml_up_i h2, s2, ml_up_i h1, s1, mt_cpy_k (by omega)]
        · rw [f2 1 (by omega), s3, ml_up_i (by omega), s2, ml_up_same]
        · rw [f1 _ (by omega), s3, ml_up_k (by omega), s2, ml_up_k (by omega), s1, mt_cpy2, if_pos ⟨rfl, by omega, by omega⟩]; congr 1; omega
      have tx := tx (by omega)
      have nx : ∀ s, s = mt_pl (σ 115) (i + 1) → f_X10_setText_u75 Q (f_X10_setText_u23 Q (f_X10_setText_u84 Q th 115) th 115 N) th 115 τ n i s := by
        intro s es
        unfold f_X10_setText_u75
        intro σ4 s4
        refine ⟨mt_I (by omega) (by omega), fun y2 e2 => ?_⟩
        have e2 : y2 = ((i + 1 : Nat) : Int) := by omega
        subst e2
        exact ih (i + 1) σ4 (by omega) (by omega) (fun j hj => by rw [s4, ml_up_k hj, f1 j hj]) (fun b hb => by rw [s4, ml_up_i hb, f2 b hb]) (by rw [s4, ml_up_same, es])
      rw [e2, tx]
      have h1 : mt_pl (σ 115) i ≠ 0 → (σ 115 i = 120 ∨ σ 115 i = 117 ∨ (48 ≤ σ 115 i ∧ σ 115 i ≤ 57)) → f_X10_setText_u70 Q (f_X10_setText_u23 Q (f_X10_setText_u84 Q th 115) th 115 N) th 115 τ n i := by
        intro c d
        unfold f_X10_setText_u70
        refine nx 1 ?_
        unfold mt_pl; rw [if_neg c, if_pos d]
      refine fun _ => ⟨fun d => ?_, fun d => ⟨by omega, by omega, fun _ => ⟨fun d1 => h1 d (Or.inl d1), fun d1 => ⟨by omega, by omega, fun _ => ⟨fun d2 => h1 d (Or.inr (Or.inl d2)), fun d2 => ⟨by omega, by omega, fun _ => s_dig2 (fun d3 _ => ⟨fun c => absurd c (by omega), fun _ => h1 d (Or.inr (Or.inr d3))⟩) (fun d3 _ => ⟨fun _ => ?_, fun c => absurd rfl c⟩)⟩⟩⟩⟩⟩⟩
      · unfold f_X10_setText_u74
        refine nx 0 ?_
        unfold mt_pl; rw [if_pos d]
      · unfold f_X10_setText_u74
        refine nx 0 ?_
        unfold mt_pl; rw [if_neg d, if_neg (by omega)]
  exact L _ 0 σ3 (by omega) (by omega) (fun _ _ => rfl) (fun _ _ => rfl) (by rw [s3, ml_up_same]; rfl)
theorem mt_mkf_c {h : Int} {T T' : Int → Int → Int} {sz sz' : Int → Int} : ∀ (n : Nat), (∀ v : Nat, v < n → T v = T' v ∧ sz v = sz' v) → mt_mkf h T sz n = mt_mkf h T' sz' n := by
  intro n
  induction n with
  | zero => intro _; rfl
  | succ n ih => intro e; unfold mt_mkf; rw [ih (fun v hv => e v (by omega)), (e n (by omega)).1, (e n (by omega)).2]
theorem mt_mk_c {h : Int} {T T' : Int → Int → Int} {sz sz' : Int → Int} {w : Nat} (hw : w < 16) (e : ∀ v : Nat, v ≤ w → T v = T' v ∧ sz v = sz' v) : mt_mk h T sz w = mt_mk h T' sz' w := by
  unfold mt_mk
  rw [mt_mkf_lo (w + 1) 16 w (by omega) (by omega), mt_mkf_lo (w + 1) 16 w (by omega) (by omega), mt_mkf_c (w + 1) (fun v hv => e v (by omega))]
/-- weaving words anew from w on -/
theorem s_weaveFrom {Q : ml_St → Prop} {h told w : Int} {T : Int → Int → Int} {sz : Int → Int} {σ0 : ml_St} (a : ic_A h told σ0) (w0 : 0 ≤ w) (w1 : w < told) (tx : ∀ v, 0 ≤ v → v < told → ic_T h T sz v σ0) (lo : ∀ v, 0 ≤ v → v < w → mt_wv h σ0 (121 + 6 * v) (mt_mk h T sz v))
    (k : ∀ σ, (∀ j, j ≠ 9 → j ≠ 55 → (j < 13 ∨ 45 < j) → (∀ v, w ≤ v → v < told → j ≠ 119 + 6 * v ∧ j ≠ 121 + 6 * v ∧ j ≠ 122 + 6 * v ∧ j ≠ 123 + 6 * v) → σ j = σ0 j) → (∀ v b, 0 ≤ v → v < 16 → b ≠ 7 → σ (119 + 6 * v) b = σ0 (119 + 6 * v) b) → σ 55 0 = 0 → (∀ v, 0 ≤ v → v < told → mt_wv h σ (121 + 6 * v) (mt_mk h T sz v)) → (∀ v, w ≤ v → v < told → σ (119 + 6 * v) 7 = 0) → Q σ) : f_X11_weaveFrom σ0 w Q := by
  obtain ⟨a1, a2, h2, h5, t0, t16⟩ := a
  have L : ∀ (N : Nat) (v : Int) (σ : ml_St), w ≤ v → v ≤ told → told - v < N → (∀ j, j ≠ 9 → (j < 13 ∨ 45 < j) → (∀ u, w ≤ u → u < v → j ≠ 119 + 6 * u ∧ j ≠ 121 + 6 * u ∧ j ≠ 122 + 6 * u ∧ j ≠ 123 + 6 * u) → σ j = σ0 j) → (∀ u b, 0 ≤ u → u < 16 → b ≠ 7 → σ (119 + 6 * u) b = σ0 (119 + 6 * u) b) → (∀ u, 0 ≤ u → u < v → mt_wv h σ (121 + 6 * u) (mt_mk h T sz u)) → (∀ u, w ≤ u → u < v → σ (119 + 6 * u) 7 = 0) → f_X11_weaveFrom_u2 Q (f_X11_weaveFrom_u55 Q) N σ v := by
    intro N
    induction N with
    | zero => intro v σ _ _ hN; omega
    | succ N ih =>
      intro v σ v0 v1 hN f fb wv fz
      have e1 : σ 1 = σ0 1 := f 1 (by omega) (by omega) (fun u _ _ => ⟨by omega, by omega, by omega, by omega⟩)
      unfold f_X11_weaveFrom_u2
      rw [e1, a2, a1]
      refine fun _ => ⟨fun c => ?_, fun c => ⟨by omega, by omega, fun _ _ => ?_⟩⟩
      · have : v = told := by omega
        subst this
        unfold f_X11_weaveFrom_u55 f_X7_forget f_X7_forget_u0
        intro σ1 s1
        refine k σ1 (fun j h1 h3 h4 h6 => by rw [s1, ml_up_k h3, f j h1 h4 h6]) (fun u b u0 u1 hb => by rw [s1, ml_up_k (by omega), fb u b u0 u1 hb]) (by rw [s1, ml_up_same]) (fun u u0 u1 => ?_) (fun u u0 u1 => by rw [s1, ml_up_k (by omega)]; exact fz u u0 u1)
        refine mt_wv_eq ?_ ?_ ?_ (wv u u0 u1)
        · rw [s1, ml_up_k (by omega)]
        · rw [s1, ml_up_k (by omega)]
        · rw [s1, ml_up_k (by omega)]
      · obtain ⟨g, s1, s2, s3⟩ := tx v (by omega) (by omega)
        have es : σ (119 + 6 * v) 1 = sz v := by rw [fb v 1 (by omega) (by omega) (by omega), s1]
        have et : mt_teq (sz v) (T v) (σ (120 + 6 * v)) := fun j j0 j1 => by rw [f (120 + 6 * v) (by omega) (by omega) (fun u _ _ => ⟨by omega, by omega, by omega, by omega⟩)]; exact (s2 j j0 j1).symm
        have g' := mt_good_c et g
        rw [es, show 119 + 6 * v + 1 = 120 + 6 * v by omega, show 119 + 6 * v + 2 = 121 + 6 * v by omega]
        have hM : ∀ u, 0 ≤ u → u < v → mt_M h (mt_mk h T sz u) := fun u u0 u1 => by
          have := (mt_mk_ok (T := T) (sz := sz) h5 u.toNat (by omega) (fun x hx => (tx x (by omega) (by omega)).1)).1
          rw [show ((u.toNat : Nat) : Int) = u by omega] at this
          exact this
        refine s_weave (w := v) (mk := mt_mk h T sz) (mt_txw (by omega) (by omega)) (by omega) (by omega) (by have := g.1; omega) g.2.1 h2 h5 (by omega) (by omega) g'.2.2.2 (fun u u0 u1 => ⟨wv u u0 u1, hM u u0 u1⟩) (fun σ6 f6 w6 _ => ?_)
        intro σ7 s7
        refine ⟨mt_I (by omega) (by omega), fun y8 e8 => ?_⟩
        subst e8
        refine ih (v + 1) σ7 (by omega) (by omega) (by omega) (fun j h1 h3 h4 => ?_) (fun u b u0 u1 hb => ?_) (fun u u0 u1 => ?_) (fun u u0 u1 => ?_)
        · have := h4 v (by omega) (by omega)
          rw [s7, ml_up_k (by omega), f6 j h1 h3 (by omega) (by omega) (by omega)]
          exact f j h1 h3 (fun u hu hv => h4 u hu (by omega))
        · rw [s7]
          by_cases q : u = v
          · rw [q, ml_up_i hb, f6 _ (by omega) (by omega) (by omega) (by omega) (by omega), ← q, fb u b u0 u1 hb]
          · rw [ml_up_k (by omega), f6 _ (by omega) (by omega) (by omega) (by omega) (by omega), fb u b u0 u1 hb]
        · have u7 : ∀ j, j ≠ 119 + 6 * v → σ7 j = σ6 j := fun j hj => by rw [s7, ml_up_k hj]
          refine mt_wv_eq (u7 _ (by omega)) (u7 _ (by omega)) (u7 _ (by omega)) ?_
          by_cases q : u = v
          · subst q
            have em : mt_mk h T sz u = mt_wo (σ (120 + 6 * u)) (sz u) h (mt_mk h T sz) := by
              have := mt_mk_e (h := h) (T := T) (sz := sz) (w := u.toNat) (by omega) (by rw [show ((u.toNat : Nat) : Int) = u by omega]; exact g)
              rw [show ((u.toNat : Nat) : Int) = u by omega] at this
              rw [this]
              exact mt_we_t (w := u) (by have := g.1; omega) et (fun _ _ _ => rfl) _ _ _ 1 _ (Int.le_refl 0) (by have := g.1; omega) g.2.2.2
            rw [em]; exact w6
          · exact mt_wv_eq (f6 _ (by omega) (by omega) (by omega) (by omega) (by omega)) (f6 _ (by omega) (by omega) (by omega) (by omega) (by omega)) (f6 _ (by omega) (by omega) (by omega) (by omega) (by omega)) (wv u u0 (by omega))
        · by_cases q : u = v
          · rw [q, s7, ml_up_same]
          · rw [s7, ml_up_k (by omega), f6 _ (by omega) (by omega) (by omega) (by omega) (by omega)]; exact fz u u0 (by omega)
  unfold f_X11_weaveFrom f_X11_weaveFrom_u0
  exact ⟨(told - w).toNat + 1, L _ w σ0 (by omega) (by omega) (by omega) (fun _ _ _ _ => rfl) (fun _ _ _ _ _ => rfl) lo (fun u u0 u1 => absurd u1 (by omega))⟩
