/-! the class's Sentences: opened (that it ends) -/
theorem s_fill32 {Q : ml_St → Prop} {NL : Nat} {p x : Int} {σ : ml_St} (hN : NL ≤ 10000) (k : ∀ σ', (∀ j, j ≠ p → σ' j = σ j) → (∀ i : Int, 0 ≤ i → i < NL → σ' p i = x) → Q σ') : f_J7_fill_53178 σ NL p x Q := by
  have L : ∀ (N : Nat) (n : Int) (σ1 : ml_St), 0 ≤ n → n ≤ NL → NL - n < N → (∀ j, j ≠ p → σ1 j = σ j) → (∀ i, 0 ≤ i → i < n → σ1 p i = x) → f_J7_fill_53178_u5 Q (f_J7_fill_53178_u20 Q NL p) NL p N σ1 x n NL := by
    intro N
    induction N with
    | zero => intro n σ1 n0 n1 hN; omega
    | succ N ih =>
      intro n σ1 n0 n1 hN f hx
      unfold f_J7_fill_53178_u5
      unfold f_J7_fill_53178_u20
      refine ⟨fun c => k σ1 f (fun i i0 i1 => hx i i0 (by omega)), fun c => ⟨n0, by omega, fun σ2 s2 => ⟨mt_I (by omega) (by omega), fun y e => ?_⟩⟩⟩
      subst e
      refine ih (n + 1) σ2 (by omega) (by omega) (by omega) (fun j hj => by rw [s2, ml_up_k hj, f j hj]) (fun i i0 i1 => ?_)
      rw [s2]
      by_cases q : i = n
      · rw [q, ml_up_same]
      · rw [ml_up_i q]; exact hx i i0 (by omega)
  unfold f_J7_fill_53178 f_J7_fill_53178_u0
  intro y e
  subst e
  exact ⟨NL + 1, L _ 0 σ (by omega) (by omega) (by omega) (fun _ _ => rfl) (fun i i0 i1 => absurd i1 (by omega))⟩
theorem s_fill64 {Q : ml_St → Prop} {NL : Nat} {p x : Int} {σ : ml_St} (hN : NL ≤ 10000) (k : ∀ σ', (∀ j, j ≠ p → σ' j = σ j) → (∀ i : Int, 0 ≤ i → i < NL → σ' p i = x) → Q σ') : f_J7_fill_d0a16 σ NL p x Q := by
  have L : ∀ (N : Nat) (n : Int) (σ1 : ml_St), 0 ≤ n → n ≤ NL → NL - n < N → (∀ j, j ≠ p → σ1 j = σ j) → (∀ i, 0 ≤ i → i < n → σ1 p i = x) → f_J7_fill_d0a16_u6 Q (f_J7_fill_d0a16_u22 Q NL p) NL p N σ1 x n NL := by
    intro N
    induction N with
    | zero => intro n σ1 n0 n1 hN; omega
    | succ N ih =>
      intro n σ1 n0 n1 hN f hx
      unfold f_J7_fill_d0a16_u6
      unfold f_J7_fill_d0a16_u22
      refine ⟨fun c => k σ1 f (fun i i0 i1 => hx i i0 (by omega)), fun c => ⟨n0, by omega, fun σ2 s2 => ⟨mt_I (by omega) (by omega), fun y e => ?_⟩⟩⟩
      subst e
      refine ih (n + 1) σ2 (by omega) (by omega) (by omega) (fun j hj => by rw [s2, ml_up_k hj, f j hj]) (fun i i0 i1 => ?_)
      rw [s2]
      by_cases q : i = n
      · rw [q, ml_up_same]
      · rw [ml_up_i q]; exact hx i i0 (by omega)
  unfold f_J7_fill_d0a16 f_J7_fill_d0a16_u0
  intro y e
  subst e
  exact ⟨NL + 1, L _ 0 σ (by omega) (by omega) (by omega) (fun _ _ => rfl) (fun i i0 i1 => absurd i1 (by omega))⟩
def mt_self (σ : ml_St) (k : Int) (x : Int) : Int := if x < 10 then σ (k + 1) x else if x < 20 then σ (k + 2) (x - 10) else σ k (x - 18)
theorem mt_wv_self {h k : Int} {σ : ml_St} (h5 : h ≤ 5) : mt_wv h σ k (mt_self σ k) := by
  refine ⟨fun e e0 e1 => ?_, ?_⟩
  · unfold mt_self
    rw [if_pos (by omega), if_neg (by omega), if_pos (by omega), show 10 + e - 10 = e by omega]; exact ⟨rfl, rfl⟩
  · unfold mt_self; simp
/-- the sentences under way: places p, letters L; the places below frm are done, and of frm the letters below i -/
def mt_fs (σ σ' : ml_St) : Prop := ∀ j, (j < 55 ∨ 69 < j) → σ' j = σ j
theorem mt_fs_t {σ σ1 σ2 : ml_St} (a : mt_fs σ σ1) (b : mt_fs σ1 σ2) : mt_fs σ σ2 := fun j hj => by rw [b j hj, a j hj]
def ic_B9 (h told : Int) (mk : Int → Int → Int) (set frm i : Int) (σ : ml_St) : Prop := σ 55 0 = set ∧ 1 ≤ σ 55 1 ∧ σ 55 1 ≤ 6 ∧ (∀ a, 0 ≤ a → a < σ 55 1 → mt_md told mk (σ 56 a)) ∧ 1 ≤ σ 55 2 ∧ σ 55 2 ≤ 946 ∧ (∀ x, 0 ≤ x → x < 945 → -1 ≤ σ 57 x ∧ σ 57 x < σ 55 2 ∧ σ 57 x ≠ 0) ∧ (∀ q, 1 ≤ q → q < σ 55 2 → ∃ x, 0 ≤ x ∧ x < 945 ∧ σ 57 x = q) ∧ (∀ q a, 0 ≤ q → 0 ≤ a → a < σ 55 1 → (q < frm ∨ (q = frm ∧ a < i)) → 1 ≤ σ 58 (6 * q + a) ∧ σ 58 (6 * q + a) < σ 55 2 ∧ 0 ≤ σ 59 (6 * q + a) ∧ σ 59 (6 * q + a) ≤ 3) ∧ (∀ q, 0 ≤ q → q < σ 55 2 → ∃ v, mt_M h v ∧ ∀ e, 0 ≤ e → e < 2 * h → σ 61 (10 * q + e) = v e) ∧ σ 64 2 = 0
theorem mb_min3 {x : Int} (h0 : 0 ≤ x) : 0 ≤ b_l2i (min x 3) ∧ b_l2i (min x 3) ≤ 3 := by
  have : b_l2i (min x 3) = min x 3 := mb_l2i (by omega) (by omega)
  omega
theorem s_keep {Q : ml_St → Prop} {p k : Int} {σ : ml_St} (ep : σ 55 2 = p) (p0 : 0 ≤ p) (p1 : p ≤ 945) (k' : ∀ σ', (∀ j, j ≠ 55 → j ≠ 61 → σ' j = σ j) → (∀ b, b ≠ 2 → σ' 55 b = σ 55 b) → σ' 55 2 = p + 1 → (∀ q, (q < 10 * p ∨ 10 * p + 10 ≤ q) → σ' 61 q = σ 61 q) → (∀ e, 0 ≤ e → e < 10 → σ' 61 (10 * p + e) = σ (k + 1) e) → Q σ') (kn : k + 1 ≠ 61) : f_X7_keep σ k Q := by
  unfold f_X7_keep f_X7_keep_u0
  rw [ep]
  refine fun _ => ⟨mt_I (by omega) (by omega), by omega, by omega, by omega, by omega, by omega, fun σ3 s3 => ?_⟩
  have e3 : σ3 55 = σ 55 := by rw [s3, mt_cpy_k (by omega)]
  rw [e3, ep]
  refine fun _ => ⟨mt_I (by omega) (by omega), fun σ6 s6 => k' σ6 (fun j h1 h2 => by rw [s6, ml_up_k h1, s3, mt_cpy_k h2]) (fun b hb => by rw [s6, ml_up_i hb, e3]) (by rw [s6, ml_up_same]) (fun q hq => ?_) (fun e e0 e1 => ?_)⟩
  · rw [s6, ml_up_k (by omega), s3, mt_cpy2, if_neg (by omega)]
  · rw [s6, ml_up_k (by omega), s3, mt_cpy2, if_pos ⟨rfl, by omega, by omega⟩]; congr 1; omega
theorem s_leadOn {Q : ml_St → Prop} {h told set frm : Int} {mk : Int → Int → Int} {C : Int → Int} {σ0 : ml_St} (h2 : 2 ≤ h) (h5 : h ≤ 5) (t16 : told ≤ 16) (f0 : 0 ≤ frm) (fp : frm < σ0 55 2) (b : ic_B9 h told mk set frm 0 σ0) (wm : ∀ w, mt_md told mk w → mt_wv h σ0 (121 + 6 * w) (mk w) ∧ mt_cv h (mk w) (C w)) (k : ∀ σ, mt_fs σ0 σ → ic_B9 h told mk set (frm + 1) 0 σ → σ0 55 2 ≤ σ 55 2 → Q σ) : f_X7_leadOn σ0 frm h Q := by
  have L : ∀ (N : Nat) (i : Int) (σ : ml_St), 0 ≤ i → i ≤ 6 → 6 - i < N → mt_fs σ0 σ → ic_B9 h told mk set frm i σ → σ0 55 2 ≤ σ 55 2 → f_X7_leadOn_u3 Q (f_X7_leadOn_u148 Q) N σ frm h i := by
    intro N
    induction N with
    | zero => intro i σ i0 i1 hN; omega
    | succ N ih =>
      intro i σ i0 i1 hN f b hp
      obtain ⟨b0, b1, b2, b3, b4, b5, b6, b7, b8, b9, b10⟩ := b
      unfold f_X7_leadOn_u3
      refine fun _ => ⟨fun c => ?_, fun c => ⟨mt_I (by omega) (by omega), by omega, by omega, by omega, by omega, by omega, fun σ4 s4 => ⟨i0, by omega, ?_⟩⟩⟩
      · unfold f_X7_leadOn_u148
        refine k σ f ⟨b0, b1, b2, b3, b4, b5, b6, b7, fun q a q0 a0 a1 hq => b8 q a q0 a0 a1 (by omega), b9, b10⟩ hp
      have k4 : ∀ j, j ≠ 65 → σ4 j = σ j := fun j hj => by rw [s4, mt_cpy_k hj]
      rw [k4 56 (by omega)]
      have md := b3 i i0 (by omega)
      have md0 := md.1
      have md1 := md.2.1
      refine fun _ => ⟨by omega, by omega, ?_⟩
      obtain ⟨wv, cv⟩ := wm _ md
      obtain ⟨v, v1, v2⟩ := b9 frm f0 (by omega)
      have eh : mt_eq h (mt_self σ4 64) v := fun e e0 e1 => by
        unfold mt_self
        rw [if_pos (by omega), s4, mt_cpy2, if_pos ⟨by omega, e0, by omega⟩, show frm * 10 + (e - 0) = 10 * frm + e by omega]
        exact v2 e e0 e1
      have hM : mt_M h (mt_self σ4 64) := mt_eq_M eh v1
      have s20 : mt_self σ4 64 20 = 0 := by unfold mt_self; rw [if_neg (by omega), if_neg (by omega), k4 64 (by omega)]; exact b10
      rw [show 119 + 6 * σ 56 i + 2 = 121 + 6 * σ 56 i by omega]
      have wv4 : mt_wv h σ4 (121 + 6 * σ 56 i) (mk (σ 56 i)) := mt_wv_eq (by rw [k4 _ (by omega), f _ (by omega)]) (by rw [k4 _ (by omega), f _ (by omega)]) (by rw [k4 _ (by omega), f _ (by omega)]) wv
      refine s_beBoth h2 h5 (by omega) (by omega) hM cv.2.1 (mt_wv_self h5) wv4 (fun σ7 f7 w7 => ?_)
      generalize hu : mt_both h (mt_self σ4 64) (mk (σ 56 i)) = u at *
      have uM : mt_M h u := by rw [← hu]; exact mt_both_M h5 hM cv.2.1
      have u20 : 0 ≤ u 20 := by
        have c5 := cv.2.2.2.2
        have c23 := cv.2.2.2.1
        have m23 := md.2.2
        have C0 := cv.1
        have hc : C (σ 56 i) ≤ mt_mst := by unfold mt_mst mt_top at *; omega
        obtain ⟨l1, l2, l3⟩ := c5 hc
        unfold mt_mst at hc
        have lub : mk (σ 56 i) 20 ≤ 5000000000000 := by
          by_cases z : C (σ 56 i) = 0
          · have := (l2 z).2.1
            have z0 : mt_str h 20 = 0 := by unfold mt_str; rw [if_neg (by omega)]
            omega
          · have := l3 (by omega); omega
        have := mt_rs_lb (h := h) (a := mt_self σ4 64) (b := mk (σ 56 i)) (by omega) (by omega) h.toNat (by omega)
        have e20 : u 20 = (mt_rs h (mt_self σ4 64) (mk (σ 56 i)) h.toNat).2.1 := by rw [← hu]; unfold mt_both; rw [if_neg (by omega), if_neg (by omega), if_pos rfl]
        omega
      have num := mt_num_lt h2 h5 uM
      have k7 : ∀ j, j ≠ 65 → j ≠ 67 → j ≠ 68 → j ≠ 69 → σ7 j = σ j := fun j h1 h2 h3 h4 => by rw [f7 j h2 (by omega) (by omega), k4 j h1]
      refine s_number h2 h5 uM (mt_eq_wa w7).1 (fun _ => ⟨by omega, by omega, ?_⟩)
      generalize hx : (mt_num h u : Int) = x at *
      have x0 : 0 ≤ x := by omega
      have x1 : x < 945 := by omega
      have ep : σ7 55 = σ 55 := k7 55 (by omega) (by omega) (by omega) (by omega)
      have e57 : σ7 57 = σ 57 := k7 57 (by omega) (by omega) (by omega) (by omega)
      -- next and more are noted
      have NT : ∀ (σ8 : ml_St), (∀ j, j ≠ 55 → j ≠ 57 → j ≠ 61 → σ8 j = σ7 j) → (∀ b, b ≠ 2 → σ8 55 b = σ 55 b) → σ 55 2 ≤ σ8 55 2 → σ8 55 2 ≤ 946 → (∀ y, 0 ≤ y → y < 945 → -1 ≤ σ8 57 y ∧ σ8 57 y < σ8 55 2 ∧ σ8 57 y ≠ 0) → (∀ q, 1 ≤ q → q < σ8 55 2 → ∃ y, 0 ≤ y ∧ y < 945 ∧ σ8 57 y = q) → (∀ q, 0 ≤ q → q < σ8 55 2 → ∃ v, mt_M h v ∧ ∀ e, 0 ≤ e → e < 2 * h → σ8 61 (10 * q + e) = v e) → 1 ≤ σ8 57 x → f_X7_leadOn_u97 Q (f_X7_leadOn_u3 Q (f_X7_leadOn_u148 Q) N) σ8 frm h i x := by
        intro σ8 f8 fb8 g1 g2 g6 g7 g9 gx
        have e67 : σ8 67 2 = u 20 := by rw [f8 67 (by omega) (by omega) (by omega)]; exact w7.2.1
        unfold f_X7_leadOn_u97
        refine ⟨mt_I (by omega) (by omega), mt_I (by omega) (by omega), x0, x1, fun _ => ⟨by omega, by omega, fun σ9 s9 => ⟨mt_I (by omega) (by omega), mt_I (by omega) (by omega), ?_⟩⟩⟩
        rw [show σ9 67 2 = u 20 by rw [s9, ml_up_k (by omega), e67]]
        refine fun _ => ⟨by omega, by omega, fun σ10 s10 => ⟨mt_I (by omega) (by omega), fun y e => ?_⟩⟩
        subst e
        have m3 := mb_min3 u20
        have k10 : ∀ j, j ≠ 58 → j ≠ 59 → σ10 j = σ8 j := fun j h1 h2 => by rw [s10, ml_up_k h2, s9, ml_up_k h1]
        have fs10 : mt_fs σ0 σ10 := fun j hj => by rw [k10 j (by omega) (by omega), f8 j (by omega) (by omega) (by omega), k7 j (by omega) (by omega) (by omega) (by omega), f j hj]
        have e1 : σ10 55 1 = σ 55 1 := by rw [k10 55 (by omega) (by omega), fb8 1 (by omega)]
        have e0 : σ10 55 0 = σ 55 0 := by rw [k10 55 (by omega) (by omega), fb8 0 (by omega)]
        have e56 : σ10 56 = σ 56 := by rw [k10 56 (by omega) (by omega), f8 56 (by omega) (by omega) (by omega), k7 56 (by omega) (by omega) (by omega) (by omega)]
        refine ih (i + 1) σ10 (by omega) (by omega) (by omega) fs10 ⟨by rw [e0, b0], by rw [e1]; exact b1, by rw [e1]; exact b2, by rw [e1, e56]; exact b3, ?_, ?_, ?_, ?_, ?_, ?_, ?_⟩ ?_
        · rw [k10 55 (by omega) (by omega)]; omega
        · rw [k10 55 (by omega) (by omega)]; omega
        · rw [k10 55 (by omega) (by omega), k10 57 (by omega) (by omega)]; exact g6
        · rw [k10 55 (by omega) (by omega), k10 57 (by omega) (by omega)]; exact g7
        · intro q a q0 a0 a1 hq
          rw [e1] at a1
          rw [k10 55 (by omega) (by omega)]
          have v58 : σ10 58 (6 * q + a) = if q = frm ∧ a = i then σ8 57 x else σ 58 (6 * q + a) := by
            rw [s10, ml_up_k (by omega), s9]
            by_cases z : q = frm ∧ a = i
            · rw [if_pos z, z.1, z.2, show frm * 6 + i = 6 * frm + i by omega, ml_up_same]
            · rw [if_neg z, ml_up_i (by omega), f8 58 (by omega) (by omega) (by omega), k7 58 (by omega) (by omega) (by omega) (by omega)]
          have v59 : σ10 59 (6 * q + a) = if q = frm ∧ a = i then b_l2i (min (u 20) 3) else σ 59 (6 * q + a) := by
            rw [s10]
            by_cases z : q = frm ∧ a = i
            · rw [if_pos z, z.1, z.2, show frm * 6 + i = 6 * frm + i by omega, ml_up_same]
            · rw [if_neg z, ml_up_i (by omega), s9, ml_up_k (by omega), f8 59 (by omega) (by omega) (by omega), k7 59 (by omega) (by omega) (by omega) (by omega)]
          rw [v58, v59]
          by_cases z : q = frm ∧ a = i
          · rw [if_pos z, if_pos z]
            exact ⟨gx, (g6 x x0 x1).2.1, m3.1, m3.2⟩
          · rw [if_neg z, if_neg z]
            have := b8 q a q0 a0 a1 (by omega)
            omega
        · rw [k10 55 (by omega) (by omega), k10 61 (by omega) (by omega)]; exact g9
        · rw [k10 64 (by omega) (by omega), f8 64 (by omega) (by omega) (by omega), k7 64 (by omega) (by omega) (by omega) (by omega)]; exact b10
        · rw [k10 55 (by omega) (by omega)]; omega
      have g6 := b6 x x0 x1
      rw [e57]
      refine fun _ => ⟨fun c2 => ?_, fun c2 => ?_⟩
      · refine NT σ7 (fun _ _ _ _ => rfl) (fun b _ => by rw [ep]) (by rw [ep]; omega) (by rw [ep]; exact b5) (by rw [ep, e57]; exact b6) (by rw [ep, e57]; exact b7) (by rw [ep, k7 61 (by omega) (by omega) (by omega) (by omega)]; exact b9) (by rw [e57]; omega)
      · rw [ep]
        -- there is room: each place but the first has a number of its own
        have room : σ 55 2 ≤ 945 := by
          rcases Int.lt_or_le 945 (σ 55 2) with z | z
          · exfalso
            have sk : ∀ q : Nat, ∃ y : Int, q < 945 → (0 ≤ y ∧ y < 945 ∧ σ 57 y = q + 1) := fun q => by
              by_cases hq : q < 945
              · obtain ⟨y, y0, y1, y2⟩ := b7 (q + 1) (by omega) (by omega)
                exact ⟨y, fun _ => ⟨y0, y1, y2⟩⟩
              · exact ⟨0, fun c => absurd c hq⟩
            obtain ⟨g, hg⟩ := Classical.axiomOfChoice sk
            obtain ⟨i, j, hij, hj, e⟩ := mt_ph 945 (fun q => if q < 945 then g q else x) (fun q hq => by
              show 0 ≤ (if q < 945 then g q else x) ∧ (if q < 945 then g q else x) < ((945 : Nat) : Int)
              split
              · rename_i q1; have := hg q q1; omega
              · omega)
            have e : (if i < 945 then g i else x) = (if j < 945 then g j else x) := e
            rw [if_pos (by omega)] at e
            have hi := hg i (by omega)
            by_cases z2 : j < 945
            · rw [if_pos z2] at e
              have hj2 := hg j z2
              rw [e] at hi
              omega
            · rw [if_neg z2] at e
              rw [e, c2] at hi
              omega
          · exact z
        refine fun _ => ⟨x0, x1, fun σ12 s12 => ?_⟩
        have k12 : ∀ j, j ≠ 57 → σ12 j = σ7 j := fun j hj => by rw [s12, ml_up_k hj]
        refine s_keep (p := σ 55 2) (by rw [k12 55 (by omega), ep]) (by omega) room (fun σ13 f13 fb13 e13 lo13 hi13 => ?_) (by omega)
        have e57' : σ13 57 = ml_up σ7 57 x (σ 55 2) 57 := by rw [f13 57 (by omega) (by omega), s12]
        refine NT σ13 (fun j h1 h3 h4 => by rw [f13 j h1 h4, k12 j h3]) (fun b hb => by rw [fb13 b hb, k12 55 (by omega), ep]) (by omega) (by omega) (fun y y0 y1 => ?_) (fun q q0 q1 => ?_) (fun q q0 q1 => ?_) ?_
        · rw [e57', e13]
          by_cases z : y = x
          · rw [z, ml_up_same]; omega
          · rw [ml_up_i z, e57]; have := b6 y y0 y1; omega
        · rw [e57']
          rw [e13] at q1
          by_cases z : q = σ 55 2
          · exact ⟨x, x0, x1, by rw [ml_up_same, z]⟩
          · obtain ⟨y, y0, y1, y2⟩ := b7 q q0 (by omega)
            refine ⟨y, y0, y1, ?_⟩
            have : y ≠ x := fun c => by rw [c, c2] at y2; omega
            rw [ml_up_i this, e57]; exact y2
        · rw [e13] at q1
          by_cases z : q = σ 55 2
          · refine ⟨u, uM, fun e e0 e1 => ?_⟩
            rw [z, hi13 e e0 (by omega), k12 (67 + 1) (by omega)]
            exact (w7.1 e e0 e1).1
          · obtain ⟨v, v1, v2⟩ := b9 q q0 (by omega)
            refine ⟨v, v1, fun e e0 e1 => ?_⟩
            rw [lo13 _ (by omega), k12 61 (by omega), k7 61 (by omega) (by omega) (by omega) (by omega)]
            exact v2 e e0 e1
        · rw [e57', ml_up_same]; omega
  unfold f_X7_leadOn f_X7_leadOn_u0
  exact ⟨10, L 10 0 σ0 (by omega) (by omega) (by omega) (fun _ _ => rfl) b (Int.le_refl _)⟩
