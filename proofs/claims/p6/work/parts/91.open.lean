/-! the class's Sentences: opened (that it ends) -/
theorem s_fill32 {Q : ml_St → Prop} {NL : Nat} {p x : Int} {σ : ml_St} (hN : NL ≤ 10000) (k : ∀ σ', (∀ j, j ≠ p → σ' j = σ j) → (∀ i : Int, 0 ≤ i → i < NL → σ' p i = x) → Q σ') : f_J7_fill_53178 σ NL p x Q := by
  have L : ∀ (N : Nat) (n : Int) (σ1 : ml_St), 0 ≤ n → n ≤ NL → NL - n < N → (∀ j, j ≠ p → σ1 j = σ j) → (∀ i, 0 ≤ i → i < n → σ1 p i = x) → f_J7_fill_53178_u5 Q (f_J7_fill_53178_u20 Q NL p) NL p N σ1 x n NL := by
    intro N
    induction N with
    | zero => intro n σ1 n0 n1 hN; omega
    | succ N ih =>
      intro n σ1 n0 n1 hN f hx
      unfold f_J7_fill_53178_u5
      unfold f_J7_fill_53178_u20
      refine ⟨fun c => k σ1 f (fun i i0 i1 => hx i i0 (by omega)), fun c => ⟨n0, by omega, fun σ2 s2 => ⟨mt_I (by omega) (by omega), fun y e => ?_⟩⟩⟩
      subst e
      refine ih (n + 1) σ2 (by omega) (by omega) (by omega) (fun j hj => by rw [s2, ml_up_k hj, f j hj]) (fun i i0 i1 => ?_)
      rw [s2]
      by_cases q : i = n
      · rw [q, ml_up_same]
      · rw [ml_up_i q]; exact hx i i0 (by omega)
  unfold f_J7_fill_53178 f_J7_fill_53178_u0
  intro y e
  subst e
  exact ⟨NL + 1, L _ 0 σ (by omega) (by omega) (by omega) (fun _ _ => rfl) (fun i i0 i1 => absurd i1 (by omega))⟩
theorem s_fill64 {Q : ml_St → Prop} {NL : Nat} {p x : Int} {σ : ml_St} (hN : NL ≤ 10000) (k : ∀ σ', (∀ j, j ≠ p → σ' j = σ j) → (∀ i : Int, 0 ≤ i → i < NL → σ' p i = x) → Q σ') : f_J7_fill_d0a16 σ NL p x Q := by
  have L : ∀ (N : Nat) (n : Int) (σ1 : ml_St), 0 ≤ n → n ≤ NL → NL - n < N → (∀ j, j ≠ p → σ1 j = σ j) → (∀ i, 0 ≤ i → i < n → σ1 p i = x) → f_J7_fill_d0a16_u6 Q (f_J7_fill_d0a16_u22 Q NL p) NL p N σ1 x n NL := by
    intro N
    induction N with
    | zero => intro n σ1 n0 n1 hN; omega
    | succ N ih =>
      intro n σ1 n0 n1 hN f hx
      unfold f_J7_fill_d0a16_u6
      unfold f_J7_fill_d0a16_u22
      refine ⟨fun c => k σ1 f (fun i i0 i1 => hx i i0 (by omega)), fun c => ⟨n0, by omega, fun σ2 s2 => ⟨mt_I (by omega) (by omega), fun y e => ?_⟩⟩⟩
      subst e
      refine ih (n + 1) σ2 (by omega) (by omega) (by omega) (fun j hj => by rw [s2, ml_up_k hj, f j hj]) (fun i i0 i1 => ?_)
      rw [s2]
      by_cases q : i = n
      · rw [q, ml_up_same]
      · rw [ml_up_i q]; exact hx i i0 (by omega)
  unfold f_J7_fill_d0a16 f_J7_fill_d0a16_u0
  intro y e
  subst e
  exact ⟨NL + 1, L _ 0 σ (by omega) (by omega) (by omega) (fun _ _ => rfl) (fun i i0 i1 => absurd i1 (by omega))⟩
def mt_self (σ : ml_St) (k : Int) (x : Int) : Int := if x < 10 then σ (k + 1) x else if x < 20 then σ (k + 2) (x - 10) else σ k (x - 18)
theorem mt_wv_self {h k : Int} {σ : ml_St} (h5 : h ≤ 5) : mt_wv h σ k (mt_self σ k) := by
  refine ⟨fun e e0 e1 => ?_, ?_⟩
  · unfold mt_self
    rw [if_pos (by omega), if_neg (by omega), if_pos (by omega), show 10 + e - 10 = e by omega]; exact ⟨rfl, rfl⟩
  · unfold mt_self; simp
/-- the sentences under way: places p, letters L; the places below frm are done, and of frm the letters below i -/
def mt_fs (σ σ' : ml_St) : Prop := ∀ j, (j < 55 ∨ 69 < j) → σ' j = σ j
theorem mt_fs_t {σ σ1 σ2 : ml_St} (a : mt_fs σ σ1) (b : mt_fs σ1 σ2) : mt_fs σ σ2 := fun j hj => by rw [b j hj, a j hj]
def ic_B9 (h told : Int) (mk : Int → Int → Int) (set frm i : Int) (σ : ml_St) : Prop := σ 55 0 = set ∧ 1 ≤ σ 55 1 ∧ σ 55 1 ≤ 6 ∧ (∀ a, 0 ≤ a → a < σ 55 1 → mt_md told mk (σ 56 a)) ∧ 1 ≤ σ 55 2 ∧ σ 55 2 ≤ 946 ∧ (∀ x, 0 ≤ x → x < 945 → -1 ≤ σ 57 x ∧ σ 57 x < σ 55 2 ∧ σ 57 x ≠ 0) ∧ (∀ q, 1 ≤ q → q < σ 55 2 → ∃ x, 0 ≤ x ∧ x < 945 ∧ σ 57 x = q) ∧ (∀ q a, 0 ≤ q → 0 ≤ a → a < σ 55 1 → (q < frm ∨ (q = frm ∧ a < i)) → 1 ≤ σ 58 (6 * q + a) ∧ σ 58 (6 * q + a) < σ 55 2 ∧ 0 ≤ σ 59 (6 * q + a) ∧ σ 59 (6 * q + a) ≤ 3) ∧ (∀ q, 0 ≤ q → q < σ 55 2 → ∃ v, mt_M h v ∧ ∀ e, 0 ≤ e → e < 2 * h → σ 61 (10 * q + e) = v e) ∧ σ 64 2 = 0
theorem mb_min3 {x : Int} (h0 : 0 ≤ x) : 0 ≤ b_l2i (min x 3) ∧ b_l2i (min x 3) ≤ 3 := by
  have : b_l2i (min x 3) = min x 3 := mb_l2i (by omega) (by omega)
  omega
theorem s_keep {Q : ml_St → Prop} {p k : Int} {σ : ml_St} (ep : σ 55 2 = p) (p0 : 0 ≤ p) (p1 : p ≤ 945) (k' : ∀ σ', (∀ j, j ≠ 55 → j ≠ 61 → σ' j = σ j) → (∀ b, b ≠ 2 → σ' 55 b = σ 55 b) → σ' 55 2 = p + 1 → (∀ q, (q < 10 * p ∨ 10 * p + 10 ≤ q) → σ' 61 q = σ 61 q) → (∀ e, 0 ≤ e → e < 10 → σ' 61 (10 * p + e) = σ (k + 1) e) → Q σ') (kn : k + 1 ≠ 61) : f_X7_keep σ k Q := by
  unfold f_X7_keep f_X7_keep_u0
  rw [ep]
  refine fun _ => ⟨mt_I (by omega) (by omega), by omega, by omega, by omega, by omega, by omega, fun σ3 s3 => ?_⟩
  have e3 : σ3 55 = σ 55 := by rw [s3, mt_cpy_k (by omega)]
  rw [e3, ep]
  refine fun _ => ⟨mt_I (by omega) (by omega), fun σ6 s6 => k' σ6 (fun j h1 h2 => by rw [s6, ml_up_k h1, s3, mt_cpy_k h2]) (fun b hb => by rw [s6, ml_up_i hb, e3]) (by rw [s6, ml_up_same]) (fun q hq => ?_) (fun e e0 e1 => ?_)⟩
  · rw [s6, ml_up_k (by omega), s3, mt_cpy2, if_neg (by omega)]
  · rw [s6, ml_up_k (by omega), s3, mt_cpy2, if_pos ⟨rfl, by omega, by omega⟩]; congr 1; omega
theorem mt_i64b {h : Int} {a b : Int → Int} : ∀ n : Nat, I64 (mt_rs h a b n).2.1 := by
  intro n
  induction n with
  | zero => exact w64_r _
  | succ n ih => unfold mt_rs; split; exact w64_r _; exact ih
theorem mt_mm_c0 {h : Int} {a b a' b' : Int → Int} (ea : mt_eq h a a') (eb : mt_eq h b b') : mt_mm h a b (2 * h).toNat = mt_mm h a' b' (2 * h).toNat := by
  rcases Int.lt_or_le h 0 with z | z
  · rw [show (2 * h).toNat = 0 by omega]; rfl
  · exact mt_mm_c ea eb _ (by omega)
/-- how many loops lie within: by the pairs and by what is within both -/
theorem mt_rs_p {h : Int} {a b a' : Int → Int} (h2 : 0 ≤ h) (h5 : h ≤ 5) (ha : mt_M h a) (hb : mt_M h b) (ea : mt_eq h a a') (e20 : a 20 = a' 20) : ∀ n : Nat, (n : Int) ≤ h → (mt_rs h a b n).1 = (mt_rs h a' b n).1 ∧ (mt_rs h a b n).2.1 = (mt_rs h a' b n).2.1 := by
  intro n
  induction n with
  | zero =>
    intro _
    unfold mt_rs
    rw [mt_mm_c0 ea (fun _ _ _ => rfl : mt_eq h b b), e20]
    exact ⟨rfl, rfl⟩
  | succ n ih =>
    intro hn
    obtain ⟨i1, i2⟩ := ih (by omega)
    have hC := mt_rs_C h2 h5 ha hb n (by omega)
    unfold mt_rs
    by_cases q : mb_t (mt_rs h a b n).1 n = 0
    · have er : (mt_rg h a b n).1 = (mt_rg h a' b n).1 := by
        obtain ⟨o, t, e1, e2, o0, o1, t0, t1, n1, n2, e3, e4, z1, z2, c⟩ := mt_rg_C h5 ha hb hC (by omega) (by omega) q
        have a1 := ea (b n + h) (by omega) (by omega)
        have e17 : (mt_r1 h a b 0 0 n).2.2 = t := by show a (b n + h) - h = t; rw [e1]; omega
        have e17' : (mt_r1 h a' b 0 0 n).2.2 = t := by show a' (b n + h) - h = t; rw [← a1, e1]; omega
        have d1 : (mt_r1 h a b 0 0 n).1 = (mt_r1 h a' b 0 0 n).1 := by unfold mt_r1; rw [a1]
        unfold mt_rg
        rw [e17, e17']
        rcases c with c | ⟨nc, o2, f1, f2, p0, p1, k1, k2, k3, f3, f4, yy⟩
        · rw [if_pos c, if_pos c]; exact d1
        · rw [if_neg nc, if_neg nc, d1]
          have a2 := ea (b t + h) (by omega) (by omega)
          show b_or _ (b_or (b_shl 1 (b t)) (b_shl 1 (a (b t + h) - h))) = b_or _ (b_or (b_shl 1 (b t)) (b_shl 1 (a' (b t + h) - h)))
          rw [a2]
      rw [if_pos q, if_pos (by rw [← i1]; exact q)]
      exact ⟨by show b_or _ _ = b_or _ _; rw [i1, er], by show w64 _ = w64 _; rw [i2]⟩
    · rw [if_neg q, if_neg (by rw [← i1]; exact q)]
      exact ⟨i1, i2⟩
theorem mt_both_p {h : Int} {a b a' : Int → Int} (h2 : 0 ≤ h) (h5 : h ≤ 5) (ha : mt_M h a) (hb : mt_M h b) (ea : mt_eq h a a') (e20 : a 20 = a' 20) : mt_eq h (mt_both h a b) (mt_both h a' b) ∧ mt_both h a b 20 = mt_both h a' b 20 := by
  refine ⟨fun e e0 e1 => ?_, ?_⟩
  · rw [mt_eq_both h5 e e0 e1, mt_eq_both h5 e e0 e1]
    unfold mt_prod
    rw [mt_eq_out ea (fun _ _ _ => rfl : mt_eq h b b) _ _ (mt_s_all e0 e1).1]
  · have e : ∀ a, mt_both h a b 20 = (mt_rs h a b h.toNat).2.1 := fun a => by unfold mt_both; rw [if_neg (by omega), if_neg (by omega), if_pos rfl]
    rw [e, e]
    exact (mt_rs_p h2 h5 ha hb ea e20 h.toNat (by omega)).2
theorem mq_w_e {h : Int} {f : Int → Int} (h5 : h ≤ 5) : mt_eq h (mq_w f) f := fun e e0 e1 => by unfold mq_w; rw [if_pos (by omega)]
theorem mt_num_e {h : Int} {f g : Int → Int} (h2 : 2 ≤ h) (h5 : h ≤ 5) (hf : mt_M h f) (e : mt_eq h f g) : mt_num h f = mt_num h g := by
  have c : ∀ (k e o s : Nat), (∀ x : Nat, e ≤ x → x < e + k → f x = g x) → mt_nm f k e o s = mt_nm g k e o s := by
    intro k
    induction k with
    | zero => intro e o s _; rfl
    | succ k ih =>
      intro e o s h
      have i := fun o s => ih (e + 1) o s (fun x h1 h2 => h x (by omega) (by omega))
      unfold mt_nm
      rw [h e (by omega) (by omega), i, i]
  unfold mt_num
  exact c _ _ _ _ (fun x _ h2 => e x (by omega) (by omega))
theorem s_leadOn {Q : ml_St → Prop} {h told set frm : Int} {mk S0 : Int → Int → Int} {C : Int → Int} {σ0 : ml_St} (h2 : 2 ≤ h) (h5 : h ≤ 5) (t16 : told ≤ 16) (f0 : 0 ≤ frm) (fp : frm < σ0 55 2) (b : ic_B9 h told mk set frm 0 σ0) (Y : ic_Y h mk frm 0 S0 σ0) (wm : ∀ w, mt_md told mk w → mt_wv h σ0 (121 + 6 * w) (mk w) ∧ mt_cv h (mk w) (C w)) (k : ∀ σ S, mt_fs σ0 σ → ic_B9 h told mk set (frm + 1) 0 σ → ic_Y h mk (frm + 1) 0 S σ → σ0 55 2 ≤ σ 55 2 → σ 55 1 = σ0 55 1 → σ 56 = σ0 56 → Q σ) : f_X7_leadOn σ0 frm h Q := by
  have L : ∀ (N : Nat) (i : Int) (σ : ml_St) (S : Int → Int → Int), 0 ≤ i → i ≤ 6 → 6 - i < N → mt_fs σ0 σ → ic_B9 h told mk set frm i σ → ic_Y h mk frm i S σ → σ0 55 2 ≤ σ 55 2 → σ 55 1 = σ0 55 1 → σ 56 = σ0 56 → f_X7_leadOn_u3 Q (f_X7_leadOn_u148 Q) N σ frm h i := by
    intro N
    induction N with
    | zero => intro i σ S i0 i1 hN; omega
    | succ N ih =>
      intro i σ S i0 i1 hN f b Y hp hL hl
      obtain ⟨b0, b1, b2, b3, b4, b5, b6, b7, b8, b9, b10⟩ := b
      unfold f_X7_leadOn_u3
      refine fun _ => ⟨fun c => ?_, fun c => ⟨mt_I (by omega) (by omega), by omega, by omega, by omega, by omega, by omega, fun σ4 s4 => ⟨i0, by omega, ?_⟩⟩⟩
      · unfold f_X7_leadOn_u148
        refine k σ S f ⟨b0, b1, b2, b3, b4, b5, b6, b7, fun q a q0 a0 a1 hq => b8 q a q0 a0 a1 (by omega), b9, b10⟩ ?_ hp hL hl
        obtain ⟨⟨y1, y2, y3, y4, y5, y6⟩, y7, y8, y9, y10⟩ := Y
        have up : ∀ p a, 0 ≤ a → a < σ 55 1 → mt_bl p a (frm + 1) 0 → mt_bl p a frm i := fun p a a0 a1 x => by unfold mt_bl at *; omega
        have dn : ∀ p a, a < σ 55 1 → mt_bl p a frm i → mt_bl p a (frm + 1) 0 := fun p a a1 x => by unfold mt_bl at *; omega
        exact ⟨⟨y1, y2, y3, y4, fun p a p0 a0 a1 x => y5 p a p0 a0 a1 (up p a a0 a1 x), fun q q1 q2 => by
          obtain ⟨p, a, p0, p1, a0, a1, x, e⟩ := y6 q q1 q2
          exact ⟨p, a, p0, p1, a0, a1, dn p a a1 x, e⟩⟩, fun p a p0 a0 a1 x => y7 p a p0 a0 a1 (up p a a0 a1 x), y8, y9, y10⟩
      have k4 : ∀ j, j ≠ 65 → σ4 j = σ j := fun j hj => by rw [s4, mt_cpy_k hj]
      rw [k4 56 (by omega)]
      have md := b3 i i0 (by omega)
      have md0 := md.1
      have md1 := md.2.1
      refine fun _ => ⟨by omega, by omega, ?_⟩
      obtain ⟨wv, cv⟩ := wm _ md
      obtain ⟨⟨y1, y2, y3, y4, y5, y6⟩, y7, y8, y9, y10⟩ := Y
      have v1 := y3 frm f0 (by omega)
      have eh : mt_eq h (mt_self σ4 64) (S frm) := fun e e0 e1 => by
        unfold mt_self
        rw [if_pos (by omega), s4, mt_cpy2, if_pos ⟨by omega, e0, by omega⟩, show frm * 10 + (e - 0) = 10 * frm + e by omega]
        exact y8 frm e f0 (by omega) e0 e1
      have hM : mt_M h (mt_self σ4 64) := mt_eq_M eh v1
      have s20 : mt_self σ4 64 20 = 0 := by unfold mt_self; rw [if_neg (by omega), if_neg (by omega), k4 64 (by omega)]; exact b10
      rw [show 119 + 6 * σ 56 i + 2 = 121 + 6 * σ 56 i by omega]
      have wv4 : mt_wv h σ4 (121 + 6 * σ 56 i) (mk (σ 56 i)) := mt_wv_eq (by rw [k4 _ (by omega), f _ (by omega)]) (by rw [k4 _ (by omega), f _ (by omega)]) (by rw [k4 _ (by omega), f _ (by omega)]) wv
      refine s_beBoth h2 h5 (by omega) (by omega) hM cv.2.1 (mt_wv_self h5) wv4 (fun σ7 f7 w7 => ?_)
      have wS : mt_eq h (mt_self σ4 64) (mq_w (S frm)) := fun e e0 e1 => by rw [mq_w_e h5 e e0 e1]; exact eh e e0 e1
      obtain ⟨uu, uu20⟩ := mt_both_p (by omega) h5 hM cv.2.1 wS (by rw [s20]; unfold mq_w; rw [if_neg (by omega)])
      generalize hu : mt_both h (mt_self σ4 64) (mk (σ 56 i)) = u at *
      have uM : mt_M h u := by rw [← hu]; exact mt_both_M h5 hM cv.2.1
      have u20 : 0 ≤ u 20 := by
        have c5 := cv.2.2.2.2
        have c23 := cv.2.2.2.1
        have m23 := md.2.2
        have C0 := cv.1
        have hc : C (σ 56 i) ≤ mt_mst := by unfold mt_mst mt_top at *; omega
        obtain ⟨l1, l2, l3⟩ := c5 hc
        unfold mt_mst at hc
        have lub : mk (σ 56 i) 20 ≤ 5000000000000 := by
          by_cases z : C (σ 56 i) = 0
          · have := (l2 z).2.1
            have z0 : mt_str h 20 = 0 := by unfold mt_str; rw [if_neg (by omega)]
            omega
          · have := l3 (by omega); omega
        have := mt_rs_lb (h := h) (a := mt_self σ4 64) (b := mk (σ 56 i)) (by omega) (by omega) h.toNat (by omega)
        have e20 : u 20 = (mt_rs h (mt_self σ4 64) (mk (σ 56 i)) h.toNat).2.1 := by rw [← hu]; unfold mt_both; rw [if_neg (by omega), if_neg (by omega), if_pos rfl]
        omega
      have num := mt_num_lt h2 h5 uM
      have k7 : ∀ j, j ≠ 65 → j ≠ 67 → j ≠ 68 → j ≠ 69 → σ7 j = σ j := fun j h1 h2 h3 h4 => by rw [f7 j h2 (by omega) (by omega), k4 j h1]
      refine s_number h2 h5 uM (mt_eq_wa w7).1 (fun _ => ⟨by omega, by omega, ?_⟩)
      generalize hx : (mt_num h u : Int) = x at *
      have x0 : 0 ≤ x := by omega
      have x1 : x < 945 := by omega
      have ep : σ7 55 = σ 55 := k7 55 (by omega) (by omega) (by omega) (by omega)
      have e57 : σ7 57 = σ 57 := k7 57 (by omega) (by omega) (by omega) (by omega)
      -- next and more are noted
      have NT : ∀ (σ8 : ml_St), (∀ j, j ≠ 55 → j ≠ 57 → j ≠ 61 → σ8 j = σ7 j) → (∀ b, b ≠ 2 → σ8 55 b = σ 55 b) → σ 55 2 ≤ σ8 55 2 → σ8 55 2 ≤ 946 → (∀ y, 0 ≤ y → y < 945 → -1 ≤ σ8 57 y ∧ σ8 57 y < σ8 55 2 ∧ σ8 57 y ≠ 0) → (∀ q, 1 ≤ q → q < σ8 55 2 → ∃ y, 0 ≤ y ∧ y < 945 ∧ σ8 57 y = q) → (∀ q, 0 ≤ q → q < σ8 55 2 → ∃ v, mt_M h v ∧ ∀ e, 0 ≤ e → e < 2 * h → σ8 61 (10 * q + e) = v e) → 1 ≤ σ8 57 x → (∃ S8 : Int → Int → Int, (∀ q, 0 ≤ q → q < σ 55 2 → S8 q = S q) ∧ mt_eq h (S8 (σ8 57 x)) u ∧ (σ8 55 2 = σ 55 2 ∨ (σ8 55 2 = σ 55 2 + 1 ∧ σ8 57 x = σ 55 2)) ∧ (∀ p, 0 ≤ p → p < σ8 55 2 → mt_M h (S8 p)) ∧ (∀ p q, 1 ≤ p → p < q → q < σ8 55 2 → ¬ mt_eq h (S8 p) (S8 q)) ∧ (∀ p e, 0 ≤ p → p < σ8 55 2 → 0 ≤ e → e < 2 * h → σ8 61 (10 * p + e) = S8 p e) ∧ (∀ q, 1 ≤ q → q < σ8 55 2 → σ8 57 (mt_num h (S8 q)) = q) ∧ ∀ y, 0 ≤ y → y < 945 → σ8 57 y ≠ -1 → (mt_num h (S8 (σ8 57 y)) : Int) = y) → f_X7_leadOn_u97 Q (f_X7_leadOn_u3 Q (f_X7_leadOn_u148 Q) N) σ8 frm h i x := by
        intro σ8 f8 fb8 g1 g2 g6 g7 g9 gx GS
        obtain ⟨S8, t1, t2, t3, t4, t5, t6, t7, t8⟩ := GS
        have e67 : σ8 67 2 = u 20 := by rw [f8 67 (by omega) (by omega) (by omega)]; exact w7.2.1
        unfold f_X7_leadOn_u97
        refine ⟨mt_I (by omega) (by omega), mt_I (by omega) (by omega), x0, x1, fun _ => ⟨by omega, by omega, fun σ9 s9 => ⟨mt_I (by omega) (by omega), mt_I (by omega) (by omega), ?_⟩⟩⟩
        rw [show σ9 67 2 = u 20 by rw [s9, ml_up_k (by omega), e67]]
        refine fun _ => ⟨by omega, by omega, fun σ10 s10 => ⟨mt_I (by omega) (by omega), fun y e => ?_⟩⟩
        subst e
        have m3 := mb_min3 u20
        have k10 : ∀ j, j ≠ 58 → j ≠ 59 → σ10 j = σ8 j := fun j h1 h2 => by rw [s10, ml_up_k h2, s9, ml_up_k h1]
        have fs10 : mt_fs σ0 σ10 := fun j hj => by rw [k10 j (by omega) (by omega), f8 j (by omega) (by omega) (by omega), k7 j (by omega) (by omega) (by omega) (by omega), f j hj]
        have e1 : σ10 55 1 = σ 55 1 := by rw [k10 55 (by omega) (by omega), fb8 1 (by omega)]
        have e0 : σ10 55 0 = σ 55 0 := by rw [k10 55 (by omega) (by omega), fb8 0 (by omega)]
        have e56 : σ10 56 = σ 56 := by rw [k10 56 (by omega) (by omega), f8 56 (by omega) (by omega) (by omega), k7 56 (by omega) (by omega) (by omega) (by omega)]
        have v58 : ∀ q a, 0 ≤ a → a < σ 55 1 → σ10 58 (6 * q + a) = if q = frm ∧ a = i then σ8 57 x else σ 58 (6 * q + a) := fun q a a0 a1 => by
          rw [s10, ml_up_k (by omega), s9]
          by_cases z : q = frm ∧ a = i
          · rw [if_pos z, z.1, z.2, show frm * 6 + i = 6 * frm + i by omega, ml_up_same]
          · rw [if_neg z, ml_up_i (by omega), f8 58 (by omega) (by omega) (by omega), k7 58 (by omega) (by omega) (by omega) (by omega)]
        have v59 : ∀ q a, 0 ≤ a → a < σ 55 1 → σ10 59 (6 * q + a) = if q = frm ∧ a = i then b_l2i (min (u 20) 3) else σ 59 (6 * q + a) := fun q a a0 a1 => by
          rw [s10]
          by_cases z : q = frm ∧ a = i
          · rw [if_pos z, z.1, z.2, show frm * 6 + i = 6 * frm + i by omega, ml_up_same]
          · rw [if_neg z, ml_up_i (by omega), s9, ml_up_k (by omega), f8 59 (by omega) (by omega) (by omega), k7 59 (by omega) (by omega) (by omega) (by omega)]
        have YY : ic_Y h mk frm (i + 1) S8 σ10 := by
          unfold ic_Y
          rw [e1, e56, k10 55 (by omega) (by omega), k10 57 (by omega) (by omega), k10 61 (by omega) (by omega)]
          have P8 : σ 55 2 ≤ σ8 55 2 := g1
          have old : ∀ p a, a < σ 55 1 → mt_bl p a frm (i + 1) → (p = frm ∧ a = i) ∨ (mt_bl p a frm i ∧ ¬ (p = frm ∧ a = i)) := fun p a a1 z => by unfold mt_bl at *; omega
          refine ⟨⟨by omega, by rw [t1 0 (by omega) (by omega)]; exact y2, t4, t5, fun p a p0 a0 a1 z => ?_, fun q q1 q2 => ?_⟩, fun p a p0 a0 a1 z => ?_, t6, t7, t8⟩
          · show 1 ≤ σ10 58 (6 * p + a) ∧ σ10 58 (6 * p + a) < σ8 55 2 ∧ mt_eq h (S8 (σ10 58 (6 * p + a))) _ ∧ ∀ q, 1 ≤ q → q < σ10 58 (6 * p + a) → ∃ p' a', 0 ≤ p' ∧ 0 ≤ a' ∧ a' < σ 55 1 ∧ mt_bl p' a' p a ∧ σ10 58 (6 * p' + a') = q
            rw [v58 p a a0 a1]
            rcases old p a a1 z with z | ⟨z, zn⟩
            · rw [if_pos z, z.1, z.2, t1 frm f0 (by omega)]
              refine ⟨gx, (g6 x x0 x1).2.1, fun e e0 e1 => by rw [t2 e e0 e1]; exact uu e e0 e1, fun q q1 q2 => ?_⟩
              have qP : q < σ 55 2 := by have := (g6 x x0 x1).2.1; omega
              obtain ⟨p', a', p0', p1', a0', a1', x', e'⟩ := y6 q q1 qP
              refine ⟨p', a', p0', a0', a1', x', ?_⟩
              rw [v58 p' a' a0' a1', if_neg (by unfold mt_bl at x'; omega)]; exact e'
            · rw [if_neg zn]
              obtain ⟨w1, w2, w3, w4⟩ := y5 p a p0 a0 a1 z
              have w1 : 1 ≤ σ 58 (6 * p + a) := w1
              have w2 : σ 58 (6 * p + a) < σ 55 2 := w2
              have pf : p ≤ frm := by unfold mt_bl at z; omega
              refine ⟨w1, by omega, ?_, fun q q1 q2 => ?_⟩
              · rw [t1 _ (by omega) w2, t1 p p0 (by omega)]; exact w3
              · obtain ⟨p', a', p0', a0', a1', x', e'⟩ := w4 q q1 q2
                refine ⟨p', a', p0', a0', a1', x', ?_⟩
                rw [v58 p' a' a0' a1', if_neg (by unfold mt_bl at x' z; omega)]; exact e'
          · show ∃ p a, 0 ≤ p ∧ p < q ∧ 0 ≤ a ∧ a < σ 55 1 ∧ mt_bl p a frm (i + 1) ∧ σ10 58 (6 * p + a) = q
            rcases Int.lt_or_le q (σ 55 2) with z | z
            · obtain ⟨p', a', p0', p1', a0', a1', x', e'⟩ := y6 q q1 z
              refine ⟨p', a', p0', p1', a0', a1', by unfold mt_bl at *; omega, ?_⟩
              rw [v58 p' a' a0' a1', if_neg (by unfold mt_bl at x'; omega)]; exact e'
            · refine ⟨frm, i, f0, by omega, i0, by omega, by unfold mt_bl; omega, ?_⟩
              rw [v58 frm i i0 (by omega), if_pos ⟨rfl, rfl⟩]; omega
          · rw [v59 p a a0 a1]
            rcases old p a a1 z with z | ⟨z, zn⟩
            · rw [if_pos z, z.1, z.2, t1 frm f0 (by omega), ← uu20, mb_l2i (by omega) (by omega)]; omega
            · rw [if_neg zn, t1 p p0 (by unfold mt_bl at z; omega)]
              exact y7 p a p0 a0 a1 z
        refine ih (i + 1) σ10 S8 (by omega) (by omega) (by omega) fs10 ⟨by rw [e0, b0], by rw [e1]; exact b1, by rw [e1]; exact b2, by rw [e1, e56]; exact b3, ?_, ?_, ?_, ?_, ?_, ?_, ?_⟩ YY ?_ (by rw [e1, hL]) (by rw [e56, hl])
        · rw [k10 55 (by omega) (by omega)]; omega
        · rw [k10 55 (by omega) (by omega)]; omega
        · rw [k10 55 (by omega) (by omega), k10 57 (by omega) (by omega)]; exact g6
        · rw [k10 55 (by omega) (by omega), k10 57 (by omega) (by omega)]; exact g7
        · intro q a q0 a0 a1 hq
          rw [e1] at a1
          rw [k10 55 (by omega) (by omega)]
          rw [v58 q a a0 a1, v59 q a a0 a1]
          by_cases z : q = frm ∧ a = i
          · rw [if_pos z, if_pos z]
            exact ⟨gx, (g6 x x0 x1).2.1, m3.1, m3.2⟩
          · rw [if_neg z, if_neg z]
            have := b8 q a q0 a0 a1 (by omega)
            omega
        · rw [k10 55 (by omega) (by omega), k10 61 (by omega) (by omega)]; exact g9
        · rw [k10 64 (by omega) (by omega), f8 64 (by omega) (by omega) (by omega), k7 64 (by omega) (by omega) (by omega) (by omega)]; exact b10
        · rw [k10 55 (by omega) (by omega)]; omega
      have g6 := b6 x x0 x1
      rw [e57]
      refine fun _ => ⟨fun c2 => ?_, fun c2 => ?_⟩
      · refine NT σ7 (fun _ _ _ _ => rfl) (fun b _ => by rw [ep]) (by rw [ep]; omega) (by rw [ep]; exact b5) (by rw [ep, e57]; exact b6) (by rw [ep, e57]; exact b7) (by rw [ep, k7 61 (by omega) (by omega) (by omega) (by omega)]; exact b9) (by rw [e57]; omega) ⟨S, fun _ _ _ => rfl, ?_, Or.inl (by rw [ep]), by rw [ep]; exact y3, by rw [ep]; exact y4, by rw [ep, k7 61 (by omega) (by omega) (by omega) (by omega)]; exact y8, by rw [ep, e57]; exact y9, by rw [e57]; exact y10⟩
        rw [e57]
        have nn := y10 x x0 x1 c2
        exact mt_num_inj h2 h5 (y3 _ (by omega) (by omega)) uM (by omega)
      · rw [ep]
        -- there is room: each place but the first has a number of its own
        have room : σ 55 2 ≤ 945 := by
          rcases Int.lt_or_le 945 (σ 55 2) with z | z
          · exfalso
            have sk : ∀ q : Nat, ∃ y : Int, q < 945 → (0 ≤ y ∧ y < 945 ∧ σ 57 y = q + 1) := fun q => by
              by_cases hq : q < 945
              · obtain ⟨y, y0, y1, y2⟩ := b7 (q + 1) (by omega) (by omega)
                exact ⟨y, fun _ => ⟨y0, y1, y2⟩⟩
              · exact ⟨0, fun c => absurd c hq⟩
            obtain ⟨g, hg⟩ := Classical.axiomOfChoice sk
            obtain ⟨i, j, hij, hj, e⟩ := mt_ph 945 (fun q => if q < 945 then g q else x) (fun q hq => by
              show 0 ≤ (if q < 945 then g q else x) ∧ (if q < 945 then g q else x) < ((945 : Nat) : Int)
              split
              · rename_i q1; have := hg q q1; omega
              · omega)
            have e : (if i < 945 then g i else x) = (if j < 945 then g j else x) := e
            rw [if_pos (by omega)] at e
            have hi := hg i (by omega)
            by_cases z2 : j < 945
            · rw [if_pos z2] at e
              have hj2 := hg j z2
              rw [e] at hi
              omega
            · rw [if_neg z2] at e
              rw [e, c2] at hi
              omega
          · exact z
        refine fun _ => ⟨x0, x1, fun σ12 s12 => ?_⟩
        have k12 : ∀ j, j ≠ 57 → σ12 j = σ7 j := fun j hj => by rw [s12, ml_up_k hj]
        refine s_keep (p := σ 55 2) (by rw [k12 55 (by omega), ep]) (by omega) room (fun σ13 f13 fb13 e13 lo13 hi13 => ?_) (by omega)
        have e57' : σ13 57 = ml_up σ7 57 x (σ 55 2) 57 := by rw [f13 57 (by omega) (by omega), s12]
        have S1 : ∀ q, q ≠ σ 55 2 → (fun q => if q = σ 55 2 then u else S q) q = S q := fun q hq => if_neg hq
        have S2 : (fun q => if q = σ 55 2 then u else S q) (σ 55 2) = u := if_pos rfl
        have nw : ∀ q, 1 ≤ q → q < σ 55 2 → ¬ mt_eq h (S q) u := fun q q0 q1 e => by
          have a := y9 q q0 q1
          have b := mt_num_e h2 h5 (y3 q (by omega) q1) e
          rw [b, hx, c2] at a; omega
        generalize hS : (fun q => if q = σ 55 2 then u else S q) = S8 at *
        refine NT σ13 (fun j h1 h3 h4 => by rw [f13 j h1 h4, k12 j h3]) (fun b hb => by rw [fb13 b hb, k12 55 (by omega), ep]) (by omega) (by omega) (fun y y0 y1 => ?_) (fun q q0 q1 => ?_) (fun q q0 q1 => ?_) ?_ ⟨S8, fun q q0 q1 => S1 q (by omega), ?_, Or.inr ⟨e13, ?_⟩, fun p p0 p1 => ?_, fun p q p0 pq q1 => ?_, fun p e p0 p1 e0 e1 => ?_, fun q q0 q1 => ?_, fun y y0 y1 => ?_⟩
        · rw [e57', e13]
          by_cases z : y = x
          · rw [z, ml_up_same]; omega
          · rw [ml_up_i z, e57]; have := b6 y y0 y1; omega
        · rw [e57']
          rw [e13] at q1
          by_cases z : q = σ 55 2
          · exact ⟨x, x0, x1, by rw [ml_up_same, z]⟩
          · obtain ⟨y, y0, y1, y2⟩ := b7 q q0 (by omega)
            refine ⟨y, y0, y1, ?_⟩
            have : y ≠ x := fun c => by rw [c, c2] at y2; omega
            rw [ml_up_i this, e57]; exact y2
        · rw [e13] at q1
          by_cases z : q = σ 55 2
          · refine ⟨u, uM, fun e e0 e1 => ?_⟩
            rw [z, hi13 e e0 (by omega), k12 (67 + 1) (by omega)]
            exact (w7.1 e e0 e1).1
          · obtain ⟨v, v1, v2⟩ := b9 q q0 (by omega)
            refine ⟨v, v1, fun e e0 e1 => ?_⟩
            rw [lo13 _ (by omega), k12 61 (by omega), k7 61 (by omega) (by omega) (by omega) (by omega)]
            exact v2 e e0 e1
        · rw [e57', ml_up_same]; omega
        · rw [e57', ml_up_same, S2]; exact fun _ _ _ => rfl
        · rw [e57', ml_up_same]
        · by_cases z : p = σ 55 2
          · rw [z, S2]; exact uM
          · rw [S1 p z]; exact y3 p p0 (by omega)
        · by_cases z : q = σ 55 2
          · rw [z, S2, S1 p (by omega)]; exact nw p p0 (by omega)
          · rw [S1 p (by omega), S1 q z]; exact y4 p q p0 pq (by omega)
        · by_cases z : p = σ 55 2
          · rw [z, S2, hi13 e e0 (by omega), k12 (67 + 1) (by omega)]
            exact (w7.1 e e0 e1).1
          · rw [S1 p z, lo13 _ (by omega), k12 61 (by omega), k7 61 (by omega) (by omega) (by omega) (by omega)]
            exact y8 p e p0 (by omega) e0 e1
        · rw [e57']
          by_cases z : q = σ 55 2
          · rw [z, S2, hx, ml_up_same]
          · have a := y9 q q0 (by omega)
            have ne : (mt_num h (S q) : Int) ≠ x := fun e => by rw [e, c2] at a; omega
            rw [S1 q z, ml_up_i ne, e57]; exact a
        · rw [e57']
          by_cases z : y = x
          · rw [z, ml_up_same, S2]; exact fun _ => hx
          · rw [ml_up_i z, e57]
            intro n1
            have := b6 y y0 y1
            rw [S1 _ (by omega)]
            exact y10 y y0 y1 n1
  unfold f_X7_leadOn f_X7_leadOn_u0
  exact ⟨10, L 10 0 σ0 S0 (by omega) (by omega) (by omega) (fun _ _ => rfl) b Y (Int.le_refl _) rfl rfl⟩
