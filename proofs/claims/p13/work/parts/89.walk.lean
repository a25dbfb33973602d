/-! the class: walk (that it ends) -/
/-- writing p's row: what may change -/
def mt_fro (p : Int) (σ σ' : ml_St) : Prop := (∀ j, j ≠ 9 → j ≠ 12 → j ≠ p → j ≠ p + 5 → σ' j = σ j) ∧ (∀ b, b ≠ 6 → b ≠ 7 → σ' p b = σ p b)
theorem mt_fro_t {p : Int} {σ σ1 σ2 : ml_St} (a : mt_fro p σ σ1) (b : mt_fro p σ1 σ2) : mt_fro p σ σ2 := ⟨fun j h1 h2 h3 h4 => by rw [b.1 j h1 h2 h3 h4, a.1 j h1 h2 h3 h4], fun j h1 h2 => by rw [b.2 j h1 h2, a.2 j h1 h2]⟩
theorem s_writeRow {Q : ml_St → Prop} {p q s n : Int} {σ : ml_St} (r0 : 0 ≤ σ p 6) (r1 : σ p 6 ≤ 2000) (s0 : 0 ≤ s) (n0 : 0 ≤ n) (sn : s + n ≤ 2000) (k : ∀ σ', (∀ j, j ≠ p → j ≠ p + 5 → σ' j = σ j) → (∀ b, b ≠ 6 → σ' p b = σ p b) → σ' p 6 = σ p 6 + min n (2000 - σ p 6) → Q σ') : f_X4_writeRow σ p q s n Q := by
  unfold f_X4_writeRow f_X4_writeRow_u0
  refine fun _ => ⟨mt_I (by omega) (by omega), fun y3 e3 _ => ⟨s0, r0, by omega, by omega, by omega, fun σ5 s5 => ?_⟩⟩
  have e5 : σ5 p = σ p := by rw [s5, mt_cpy_k (by omega)]
  rw [e5]
  refine fun _ => ⟨mt_I (by omega) (by omega), fun σ8 s8 => k σ8 (fun j h1 h2 => by rw [s8, ml_up_k h1, s5, mt_cpy_k h2]) (fun b hb => by rw [s8, ml_up_i hb, e5]) (by rw [s8, ml_up_same, e3])⟩
theorem s_repeatRow {Q : ml_St → Prop} {p s tm : Int} {σ : ml_St} (r1 : σ p 6 ≤ 2000) (s0 : 0 ≤ s) (s1 : s ≤ σ p 6) (t0 : 0 ≤ tm) (t1 : tm < 1000000000) (k : ∀ σ', (∀ j, j ≠ p → j ≠ p + 5 → σ' j = σ j) → (∀ b, b ≠ 6 → σ' p b = σ p b) → s ≤ σ' p 6 → σ' p 6 ≤ 2000 → Q σ') : f_X4_repeatRow σ p s tm Q := by
  have L : ∀ (N : Nat) (x : Int) (σ1 : ml_St), 1 ≤ x → x ≤ 1000000000 → 2001 - σ1 p 6 < N → (∀ j, j ≠ p → j ≠ p + 5 → σ1 j = σ j) → (∀ b, b ≠ 6 → σ1 p b = σ p b) → s ≤ σ1 p 6 → σ1 p 6 ≤ 2000 → f_X4_repeatRow_u19 Q (f_X4_repeatRow_u55 Q p) p N σ1 s tm (σ p 6 - s) x := by
    intro N
    induction N with
    | zero => intro x σ1 x0 x1 hN _ _ _ h; omega
    | succ N ih =>
      intro x σ1 x0 x1 hN f fb h1 h2
      unfold f_X4_repeatRow_u19
      unfold f_X4_repeatRow_u55
      refine ⟨fun _ => k σ1 f fb h1 h2, fun c => ⟨fun _ => k σ1 f fb h1 h2, fun c2 _ => ⟨fun _ => k σ1 f fb h1 h2, fun c3 => ?_⟩⟩⟩
      refine s_writeRow (by omega) h2 s0 (by omega) (by omega) (fun σ5 f5 fb5 e5 => ⟨⟨by omega, by omega⟩, fun y e => ?_⟩)
      subst e
      exact ih (x + 1) σ5 (by omega) (by omega) (by rw [e5]; omega) (fun j h1 h2 => by rw [f5 j h1 h2, f j h1 h2]) (fun b hb => by rw [fb5 b hb, fb b hb]) (by rw [e5]; omega) (by rw [e5]; omega)
  have go : ∀ σ1 : ml_St, (∀ j, j ≠ p → j ≠ p + 5 → σ1 j = σ j) → (∀ b, b ≠ 6 → σ1 p b = σ p b) → s ≤ σ1 p 6 → σ1 p 6 ≤ 2000 → f_X4_repeatRow_u16 Q p σ1 s tm (σ p 6 - s) := by
    intro σ1 f fb h1 h2
    unfold f_X4_repeatRow_u16
    exact ⟨2010, L 2010 1 σ1 (by omega) (by omega) (by omega) f fb h1 h2⟩
  unfold f_X4_repeatRow f_X4_repeatRow_u0
  refine fun _ => ⟨mt_I (by omega) (by omega), fun y3 e3 => ⟨fun _ => ?_, fun _ σ5 s5 => ?_⟩⟩
  · rw [e3]; exact go σ (fun _ _ _ => rfl) (fun _ _ => rfl) s1 r1
  · rw [e3]; exact go σ5 (fun j h1 _ => by rw [s5, ml_up_k h1]) (fun b hb => by rw [s5, ml_up_i hb]) (by rw [s5, ml_up_same]; omega) (by rw [s5, ml_up_same]; omega)
theorem s_writeSign {Q : ml_St → Prop} {p v : Int} {σ : ml_St} (r0 : 0 ≤ σ p 6) (r1 : σ p 6 ≤ 2000) (k : ∀ σ', (∀ j, j ≠ p → j ≠ p + 5 → σ' j = σ j) → (∀ b, b ≠ 6 → σ' p b = σ p b) → σ p 6 ≤ σ' p 6 → σ' p 6 ≤ 2000 → Q σ') : f_X4_writeSign σ p v Q := by
  unfold f_X4_writeSign f_X4_writeSign_u0
  unfold f_X4_writeSign_u31
  refine fun _ => ⟨fun _ => k σ (fun _ _ _ => rfl) (fun _ _ => rfl) (Int.le_refl _) r1, fun c _ => ⟨r0, by omega, fun σ4 s4 => ?_⟩⟩
  have e4 : σ4 p = σ p := by rw [s4, ml_up_k (by omega)]
  rw [e4]
  exact fun _ => ⟨mt_I (by omega) (by omega), fun σ7 s7 => k σ7 (fun j h1 h2 => by rw [s7, ml_up_k h1, s4, ml_up_k h2]) (fun b hb => by rw [s7, ml_up_i hb, e4]) (by rw [s7, ml_up_same]; omega) (by rw [s7, ml_up_same]; omega)⟩
theorem s_writeOut {Q : ml_St → Prop} {h w n : Int} {t : Int → Int} {σ0 : ml_St} (h5 : h ≤ 5) (w0 : 0 ≤ w) (w16 : w < 16) (g : mt_good h w t n) (en : σ0 (119 + 6 * w) 1 = n) (et : mt_teq n (σ0 (120 + 6 * w)) t) (hr : ic_R σ0) (k : ∀ σ, mt_fro (119 + 6 * w) σ0 σ → 0 ≤ σ (119 + 6 * w) 6 → σ (119 + 6 * w) 6 ≤ 2000 → Q σ) : f_X4_writeOut σ0 (119 + 6 * w) Q := by
  have n1 := g.1
  have n100 := g.2.1
  have g4 : mt_gr (σ0 (120 + 6 * w)) n h w (n.toNat + 1) 0 0 1 = 0 := by rw [mt_gr_t et _ _ _ _ (Int.le_refl 0)]; exact g.2.2.2
  generalize hp : 119 + 6 * w = p at *
  have ep : 120 + 6 * w = p + 1 := by omega
  rw [ep] at g4
  have tx : ml_tx (p + 1) := by rw [← ep]; exact mt_txw w0 w16
  have KE : ∀ σ, mt_fro p σ0 σ → 0 ≤ σ p 6 → σ p 6 ≤ 2000 → f_X4_writeOut_u183 Q p σ := by
    intro σ f q0 q1
    unfold f_X4_writeOut_u183
    intro σ1 s1
    exact k σ1 (mt_fro_t f ⟨fun j _ _ h3 _ => by rw [s1, ml_up_k h3], fun b _ h2 => by rw [s1, ml_up_i h2]⟩) (by rw [s1, ml_up_i (by omega)]; exact q0) (by rw [s1, ml_up_i (by omega)]; exact q1)
  have L : ∀ (F N : Nat) (i d need x4 : Int) (σ : ml_St), σ 9 0 = p + 1 → σ 9 1 = n → σ 9 2 = i → mt_fro p σ0 σ → 0 ≤ σ p 6 → σ p 6 ≤ 2000 → (∀ k, 1 ≤ k → k ≤ d → 0 ≤ σ 12 k ∧ σ 12 k ≤ σ p 6) → (∀ k k', 1 ≤ k → k ≤ k' → k' ≤ d → σ 12 k ≤ σ 12 k') → 0 ≤ i → i ≤ n → 0 ≤ d → d ≤ 6 → 0 ≤ x4 → x4 ≤ i → n - i < F → n - x4 < N → mt_gr (σ0 (p + 1)) n h w F i d need = 0 → f_X4_writeOut_u25 Q (f_X4_writeOut_u183 Q p) p N σ d x4 := by
    intro F
    induction F with
    | zero => intro N i d need x4 σ _ _ _ _ _ _ _ _ i0 i1 d0 d6 x0 x1 hF; omega
    | succ F ih =>
      intro N i d need x4 σ e0 e1 e2 f q0 q1 hs hm i0 i1 d0 d6 x0 x1 hF hN g
      obtain ⟨N, rfl⟩ : ∃ N', N = N' + 1 := ⟨N - 1, by omega⟩
      have etx : σ (p + 1) = σ0 (p + 1) := f.1 _ (by omega) (by omega) (by omega) (by omega)
      have e1' : σ p 1 = n := by rw [f.2 1 (by omega) (by omega), en]
      unfold f_X4_writeOut_u25
      rw [e1']
      refine fun _ => ⟨fun c => KE σ f q0 q1, fun c => ?_⟩
      -- behind an item
      have AF : ∀ (i' d' : Int) (s : Int) (σ2 : ml_St), σ2 9 0 = p + 1 → σ2 9 1 = n → σ2 9 2 = i' → 0 ≤ σ2 9 5 → σ2 9 5 < 1000000000 → mt_fro p σ0 σ2 → σ2 p 6 ≤ 2000 → 0 ≤ s → s ≤ σ2 p 6 → (∀ k, 1 ≤ k → k ≤ d' → 0 ≤ σ2 12 k ∧ σ2 12 k ≤ s) → (∀ k k', 1 ≤ k → k ≤ k' → k' ≤ d' → σ2 12 k ≤ σ2 12 k') → i < i' → i' ≤ n → 0 ≤ d' → d' ≤ 6 → mt_gr (σ0 (p + 1)) n h w F i' d' 0 = 0 → f_X4_writeOut_u164 Q (f_X4_writeOut_u25 Q (f_X4_writeOut_u183 Q p) p N) p σ2 d' x4 s := by
        intro i' d' s σ2 e0 e1 e2 t0 t1 f2 r1 s0 s1 hs2 hm2 ii' in' d0' d6' g'
        unfold f_X4_writeOut_u164
        refine fun _ => s_repeatRow r1 s0 s1 t0 t1 (fun σ3 f3 fb3 h1 h2 => ?_)
        unfold f_X4_writeOut_u177
        refine ⟨mt_I (by omega) (by omega), fun y1 ey1 => ?_⟩
        subst ey1
        have e9 : σ3 9 = σ2 9 := f3 9 (by omega) (by omega)
        have e12 : σ3 12 = σ2 12 := f3 12 (by omega) (by omega)
        refine ih N i' d' 0 (x4 + 1) σ3 (by rw [e9, e0]) (by rw [e9, e1]) (by rw [e9, e2]) (mt_fro_t f2 ⟨fun j _ _ h3 h4 => f3 j h3 h4, fun b hb _ => fb3 b hb⟩) (by omega) h2 (fun k k0 k1 => ?_) (by rw [e12]; exact hm2) (by omega) in' d0' d6' (by omega) (by omega) (by omega) (by omega) g'
        rw [e12]
        have := hs2 k k0 k1
        omega
      have eta := mt_is_eta e0 e1 e2
      have ff3 : ∀ (i kd v tm : Int), mt_is σ (p + 1) n i kd v tm 9 3 = kd := fun _ _ _ _ => rfl
      have ff4 : ∀ (i kd v tm : Int), mt_is σ (p + 1) n i kd v tm 9 4 = v := fun _ _ _ _ => rfl
      have fI : ∀ (i kd v tm : Int), mt_fro p σ0 (mt_is σ (p + 1) n i kd v tm) := fun i kd v tm => mt_fro_t f ⟨fun j h1 _ _ _ => mt_is_k h1, fun b _ _ => by rw [mt_is_k (by omega)]⟩
      have pI : ∀ (i kd v tm : Int), mt_is σ (p + 1) n i kd v tm p = σ p := fun i kd v tm => mt_is_k (by omega)
      have sI : ∀ (i kd v tm : Int), mt_is σ (p + 1) n i kd v tm 12 = σ 12 := fun i kd v tm => mt_is_k (by omega)
      rw [eta]
      rw [← etx] at g AF ih
      refine s_step (h := h) (w := w) (d := d) (need := need) (F := F) tx (by omega) i0 i1 n100 h5 g ?_ ?_ ?_ ?_ ?_
      · intro _ _ _ _
        exact ⟨fun _ => KE _ (fI _ _ _ _) (by rw [pI]; exact q0) (by rw [pI]; exact q1), fun c => absurd rfl c⟩
      · intro z1 z2 z3 z4
        refine fun _ => ⟨fun c => absurd c (by omega), fun _ => ?_⟩
        rw [pI]
        intro _ y6 e6
        subst e6
        rw [ff3]
        refine fun _ => ⟨fun c => absurd rfl c, fun _ => ⟨mt_I (by omega) (by omega), fun y26 e26 => ?_⟩⟩
        have e26 : y26 = d + 1 := by omega
        subst e26
        refine ⟨by omega, by omega, fun σ27 s27 => ?_⟩
        unfold f_X4_writeOut_u177
        refine ⟨mt_I (by omega) (by omega), fun y1 ey1 => ?_⟩
        subst ey1
        have k27 : ∀ j, j ≠ 12 → σ27 j = mt_is σ (p + 1) n (i + 1) 0 (σ 9 4) 1 j := fun j hj => by rw [s27, ml_up_k hj]
        refine ih N (i + 1) (d + 1) 1 (x4 + 1) σ27 (by rw [k27 9 (by omega)]; rfl) (by rw [k27 9 (by omega)]; rfl) (by rw [k27 9 (by omega)]; rfl) (mt_fro_t (fI _ _ _ _) ⟨fun j _ h2 _ _ => k27 j h2, fun b _ _ => by rw [k27 p (by omega)]⟩) (by rw [k27 p (by omega), pI]; exact q0) (by rw [k27 p (by omega), pI]; exact q1) (fun k k0 k1 => ?_) (fun k k' k0 k1 k2 => ?_) (by omega) (by omega) (by omega) (by omega) (by omega) (by omega) (by omega) (by omega) z4
        rw [k27 p (by omega), pI, s27]
        by_cases q : k = d + 1
        · rw [q, ml_up_same]; exact ⟨q0, Int.le_refl _⟩
        · rw [ml_up_i q, sI]; exact hs k k0 (by omega)
        rw [s27]
        by_cases q' : k' = d + 1
        · rw [q', ml_up_same]
          by_cases q : k = d + 1
          · rw [q, ml_up_same]; exact Int.le_refl _
          · rw [ml_up_i q, sI]; exact (hs k k0 (by omega)).2
        · rw [ml_up_i q', ml_up_i (show k ≠ d + 1 by omega), sI]; exact hm k k' k0 k1 (by omega)
      · intro z1 z2 z3 z4 z5 z6
        refine fun _ => ⟨fun c => absurd c (by omega), fun _ => ?_⟩
        rw [pI]
        intro _ y6 e6
        subst e6
        rw [ff3, sI]
        have r := mt_tn_r (t := σ (p + 1)) (n := n) (i := i + 1) (by omega)
        have rt := mt_tm_r (t := σ (p + 1)) (n := n) (i := i + 1) (by omega) z5
        obtain ⟨s0, s1⟩ := hs d (by omega) (by omega)
        refine fun _ => ⟨fun _ _ => ⟨fun c => absurd rfl c, fun _ => ⟨d0, by omega, fun _ y22 e22 => ⟨mt_I (by omega) (by omega), fun y24 e24 => ?_⟩⟩⟩, fun c => absurd c (by omega)⟩
        have e24 : y24 = d - 1 := by omega
        subst e24
        subst e22
        refine AF (mt_tn (σ (p + 1)) n (i + 1)) (d - 1) (σ 12 d) _ rfl rfl rfl rt.1 rt.2 (fI _ _ _ _) (by rw [pI]; exact q1) s0 (by rw [pI]; exact s1) (fun k k0 k1 => ?_) (by rw [sI]; exact fun k k' k0 k1 k2 => hm k k' k0 k1 (by omega)) (by omega) r.2 (by omega) (by omega) z6
        rw [sI]
        exact ⟨(hs k k0 (by omega)).1, hm k d k0 (by omega) (by omega)⟩
      · intro z1 z2 z3 z4 z5 z6
        refine fun _ => ⟨fun c => absurd c (by omega), fun _ => ?_⟩
        rw [pI]
        intro _ y6 e6
        subst e6
        rw [ff3, ff4]
        have r := mt_tn_r (t := σ (p + 1)) (n := n) (i := i + 2) (by omega)
        have rt := mt_tm_r (t := σ (p + 1)) (n := n) (i := i + 2) (by omega) z5
        refine fun _ => ⟨fun _ _ => ⟨fun _ _ => ⟨fun c => absurd rfl c, fun _ _ => ?_⟩, fun c => absurd c (by omega)⟩, fun c => absurd c (by omega)⟩
        refine s_writeSign (by rw [pI]; exact q0) (by rw [pI]; exact q1) (fun σ3 f3 fb3 h1 h2 => ?_)
        rw [pI] at h1
        have e9 : σ3 9 = mt_is σ (p + 1) n (mt_tn (σ (p + 1)) n (i + 2)) 2 (2 * (σ (p + 1) (i + 1) - 48) + (if σ (p + 1) i = 117 then 1 else 0)) (mt_tm (σ (p + 1)) n (i + 2)) 9 := f3 9 (by omega) (by omega)
        have e12 : σ3 12 = σ 12 := by rw [f3 12 (by omega) (by omega), sI]
        refine AF (mt_tn (σ (p + 1)) n (i + 2)) d (σ p 6) σ3 (by rw [e9]; rfl) (by rw [e9]; rfl) (by rw [e9]; rfl) (by rw [e9]; exact rt.1) (by rw [e9]; exact rt.2) (mt_fro_t (fI _ _ _ _) ⟨fun j _ _ h3 h4 => f3 j h3 h4, fun b hb _ => fb3 b hb⟩) h2 q0 h1 (by rw [e12]; exact hs) (by rw [e12]; exact hm) (by omega) r.2 d0 d6 z6
      · intro z1 z2 z3 z4 z5 z6
        refine fun _ => ⟨fun c => absurd c (by omega), fun _ => ?_⟩
        rw [pI]
        intro _ y6 e6
        subst e6
        rw [ff3, ff4]
        have r := mt_tn_r (t := σ (p + 1)) (n := n) (i := i + 1) (by omega)
        have rt := mt_tm_r (t := σ (p + 1)) (n := n) (i := i + 1) (by omega) z5
        have rv : 0 ≤ σ (119 + 6 * (σ (p + 1) i - 65)) 6 ∧ σ (119 + 6 * (σ (p + 1) i - 65)) 6 ≤ 2000 := by
          rw [f.1 _ (by omega) (by omega) (by omega) (by omega)]
          exact hr (σ (p + 1) i - 65) (by omega) (by omega)
        refine fun _ => ⟨fun _ _ => ⟨fun _ _ => ⟨fun _ _ => ⟨by omega, by omega, fun _ => ⟨by omega, by omega, fun _ => ?_⟩⟩, fun c => absurd c (by omega)⟩, fun c => absurd c (by omega)⟩, fun c => absurd c (by omega)⟩
        rw [mt_is_k (show 119 + 6 * (σ (p + 1) i - 65) ≠ 9 by omega)]
        refine s_writeRow (by rw [pI]; exact q0) (by rw [pI]; exact q1) (by omega) rv.1 (by omega) (fun σ3 f3 fb3 e3 => ?_)
        rw [pI] at e3
        have e9 : σ3 9 = mt_is σ (p + 1) n (mt_tn (σ (p + 1)) n (i + 1)) 3 (σ (p + 1) i - 65) (mt_tm (σ (p + 1)) n (i + 1)) 9 := f3 9 (by omega) (by omega)
        have e12 : σ3 12 = σ 12 := by rw [f3 12 (by omega) (by omega), sI]
        exact AF (mt_tn (σ (p + 1)) n (i + 1)) d (σ p 6) σ3 (by rw [e9]; rfl) (by rw [e9]; rfl) (by rw [e9]; rfl) (by rw [e9]; exact rt.1) (by rw [e9]; exact rt.2) (mt_fro_t (fI _ _ _ _) ⟨fun j _ _ h3 h4 => f3 j h3 h4, fun b hb _ => fb3 b hb⟩) (by rw [e3]; omega) q0 (by rw [e3]; omega) (by rw [e12]; exact hs) (by rw [e12]; exact hm) (by omega) r.2 d0 d6 z6
  unfold f_X4_writeOut f_X4_writeOut_u0
  intro σ1 s1
  rw [show σ1 p 1 = n by rw [s1, ml_up_i (by omega), en]]
  have f1 : mt_fro p σ0 σ1 := ⟨fun j _ _ h3 _ => by rw [s1, ml_up_k h3], fun b h1 _ => by rw [s1, ml_up_i h1]⟩
  refine fun _ => s_begin ⟨n.toNat + 1, ?_⟩
  refine L (n.toNat + 1) _ 0 0 1 0 _ rfl rfl rfl (mt_fro_t f1 ⟨fun j h1 _ _ _ => mt_is_k h1, fun b _ _ => by rw [mt_is_k (by omega)]⟩) ?_ ?_ (fun k k0 k1 => absurd k1 (by omega)) (fun k k' k0 k1 k2 => absurd k2 (by omega)) (by omega) (by omega) (by omega) (by omega) (by omega) (by omega) (by omega) (by omega) g4
  · rw [mt_is_k (by omega), s1, ml_up_same]; omega
  · rw [mt_is_k (by omega), s1, ml_up_same]; omega
theorem s_follow {Q : Int → ml_St → Prop} {p e x h : Int} {σ : ml_St} (h2 : 2 ≤ h) (h5 : h ≤ 5) (e0 : 0 ≤ e) (e1 : e < 2 * h) (r0 : 0 ≤ σ p 6) (r1 : σ p 6 ≤ 2000) (k : ∀ r, Q r σ) : f_X10_follow σ p e x h Q := by
  have L : ∀ (N : Nat) (rail on at' come steps : Int), -200 ≤ rail → rail ≤ 200 → -1 ≤ at' → at' ≤ 2000 → 0 ≤ come → come ≤ steps → 0 ≤ steps → steps ≤ 20000 → 20000 - steps < N → f_X10_follow_u54 Q (f_X10_follow_u108 Q p) (f_X10_follow_u175 Q p) p N σ x h on rail at' come 20000 steps := by
    intro N
    induction N with
    | zero => intro rail on at' come steps _ _ _ _ _ _ _ _ hN; omega
    | succ N ih =>
      intro rail on at' come steps l0 l1 a0 a1 c0 c1 s0 s1 hN
      have KE : f_X10_follow_u175 Q p σ x h on rail := by
        unfold f_X10_follow_u175
        unfold f_X10_follow_u196
        exact ⟨fun _ => ⟨fun _ => k _, fun _ => ⟨mt_I (by omega) (by omega), k _⟩⟩, fun _ => k _⟩
      unfold f_X10_follow_u54
      refine ⟨fun _ => KE, fun q1 => ⟨fun _ => KE, fun q2 _ => ⟨fun _ => KE, fun q3 => ⟨by omega, by omega, fun I8 => ⟨by omega, ?_, fun y7 e7 => ?_⟩⟩⟩⟩⟩
      · have := I8.1; have := I8.2
        have b : -200 ≤ Int.tdiv (σ (p + 5) at') 2 ∧ Int.tdiv (σ (p + 5) at') 2 ≤ 200 := by
          rcases Int.le_total 0 (σ (p + 5) at') with z | z
          · rw [Int.tdiv_eq_ediv_of_nonneg z]; omega
          · have := Int.neg_tdiv (σ (p + 5) at') 2
            rw [Int.tdiv_eq_ediv_of_nonneg (show 0 ≤ -(σ (p + 5) at') by omega)] at this
            omega
        exact mt_I (by omega) (by omega)
      have y7b : -100 ≤ y7 ∧ y7 ≤ 100 := by
        have := I8.1; have := I8.2
        rw [e7]
        rcases Int.le_total 0 (σ (p + 5) at') with z | z
        · rw [Int.tdiv_eq_ediv_of_nonneg z]; omega
        · have := Int.neg_tdiv (σ (p + 5) at') 2
          rw [Int.tdiv_eq_ediv_of_nonneg (show 0 ≤ -(σ (p + 5) at') by omega)] at this
          omega
      have MV : ∀ on rail come, -200 ≤ rail → rail ≤ 200 → 0 ≤ come → come ≤ steps + 1 → f_X10_follow_u154 Q (f_X10_follow_u54 Q (f_X10_follow_u108 Q p) (f_X10_follow_u175 Q p) p N) p σ x h on rail at' come 20000 steps := by
        intro on rail come l0 l1 c0 c1
        unfold f_X10_follow_u154
        unfold f_X10_follow_u166
        refine ⟨fun _ => ⟨mt_I (by omega) (by omega), fun y2 e2 => ⟨⟨by omega, by omega⟩, fun y3 e3 => ?_⟩⟩, fun _ => ⟨mt_I (by omega) (by omega), fun y2 e2 => ⟨⟨by omega, by omega⟩, fun y3 e3 => ?_⟩⟩⟩
        · subst e3; exact ih rail on y2 come (steps + 1) l0 l1 (by omega) (by omega) c0 (by omega) (by omega) (by omega) (by omega)
        · subst e3; exact ih rail on y2 come (steps + 1) l0 l1 (by omega) (by omega) c0 (by omega) (by omega) (by omega) (by omega)
      have MT : (rail = y7 ∨ rail = y7 + 1) → f_X10_follow_u102 Q (f_X10_follow_u54 Q (f_X10_follow_u108 Q p) (f_X10_follow_u175 Q p) p N) (f_X10_follow_u108 Q p) p σ x h on rail at' come 20000 steps y7 := by
        intro hr
        unfold f_X10_follow_u102
        refine ⟨fun _ => ⟨⟨by omega, by omega⟩, fun y2 e2 => ⟨mt_I (by omega) (by omega), mt_I (by omega) (by omega), mt_I (by omega) (by omega), fun y6 e6 => ⟨by omega, by omega, fun _ => ⟨by omega, ?_, fun _ => ?_, fun _ => ?_⟩⟩⟩⟩, fun _ => ?_⟩
        · have := I8.1; have := I8.2
          have b : -2 ≤ Int.tmod (σ (p + 5) at') 2 ∧ Int.tmod (σ (p + 5) at') 2 ≤ 2 := by
            rcases Int.le_total 0 (σ (p + 5) at') with z | z
            · rw [Int.tmod_eq_emod_of_nonneg z]; omega
            · have := Int.neg_tmod (σ (p + 5) at') 2
              rw [Int.tmod_eq_emod_of_nonneg (show 0 ≤ -(σ (p + 5) at') by omega)] at this
              omega
          exact mt_I (by omega) (by omega)
        · unfold f_X10_follow_u144 f_X10_follow_u152
          exact ⟨fun _ => MV 0 y6 y2 (by omega) (by omega) (by omega) (by omega), fun _ => MV 1 y6 y2 (by omega) (by omega) (by omega) (by omega)⟩
        · unfold f_X10_follow_u144 f_X10_follow_u152
          exact ⟨fun _ => MV 0 y6 y2 (by omega) (by omega) (by omega) (by omega), fun _ => MV 1 y6 y2 (by omega) (by omega) (by omega) (by omega)⟩
        · unfold f_X10_follow_u108; exact k _
      exact ⟨fun z => MT (Or.inl z), fun z => ⟨mt_I (by omega) (by omega), fun _ => MV on rail come l0 l1 c0 (by omega), fun z2 => MT (Or.inr z2)⟩⟩
  have S : ∀ rail on at', -200 ≤ rail → rail ≤ 200 → -1 ≤ at' → at' ≤ 2000 → f_X10_follow_u41 Q p σ x h on rail at' := by
    intro rail on at' l0 l1 a0 a1
    unfold f_X10_follow_u41
    exact ⟨20001, L 20001 rail on at' 0 0 l0 l1 a0 a1 (by omega) (by omega) (by omega) (by omega) (by omega)⟩
  unfold f_X10_follow f_X10_follow_u0
  unfold f_X10_follow_u10 f_X10_follow_u24
  exact ⟨fun _ => ⟨fun _ => ⟨mt_I (by omega) (by omega), fun _ _ => ⟨mt_I (by omega) (by omega), S _ _ _ (by omega) (by omega) (by omega) (by omega)⟩, fun c => absurd rfl c⟩, fun c => absurd rfl c⟩, fun _ => ⟨fun c => absurd c (by omega), fun _ => ⟨fun c => absurd c (by omega), fun _ => S _ _ _ (by omega) (by omega) (by omega) (by omega)⟩⟩⟩
theorem c_walk {Q : Int → ml_St → Prop} {h told ts cap w e x : Int} {tb cl pr sz : Int → Int} {T : Int → Int → Int} {σ0 : ml_St} (i : IC h told ts cap tb cl pr sz T σ0) (k : ∀ r σ, IC h told ts cap tb cl pr sz T σ → (∀ j, 215 ≤ j → σ j = σ0 j) → Q r σ) : f_X11_walk σ0 w e x Q := by
  have no : ∀ r, Q r σ0 := fun r => k r σ0 i (fun _ _ => rfl)
  have a := i.1
  have t16 := a.2.2.2.2.2
  unfold f_X11_walk f_X11_walk_u0
  unfold f_X11_walk_u40
  refine s_isTold a.2.1 (fun w0 w1 _ => ⟨fun z => absurd z (by omega), fun _ => ⟨w0, by omega, fun _ => ⟨fun _ => no _, fun _ => s_isEnd a.2.2.1 a.2.2.2.1 a.1 (fun e0 e1 _ => ⟨fun z => absurd z (by omega), fun _ => ⟨fun _ => ⟨20, ?_⟩, fun _ => no _⟩⟩) (fun _ _ => ⟨fun _ => no _, fun z => absurd rfl z⟩)⟩⟩⟩) (fun _ _ => ⟨fun _ => no _, fun z => absurd rfl z⟩)
  have L : ∀ (N : Nat) (v : Int) (σ : ml_St), 0 ≤ v → v ≤ w + 1 → w + 1 - v < N → IC h told ts cap tb cl pr sz T σ → (∀ j, 215 ≤ j → σ j = σ0 j) → f_X11_walk_u45 Q (f_X11_walk_u88 Q) N σ w e x v := by
    intro N
    induction N with
    | zero => intro v σ v0 v1 hN; omega
    | succ N ih =>
      intro v σ v0 v1 hN iσ fσ
      unfold f_X11_walk_u45
      have nx : ∀ σ, v ≤ w → IC h told ts cap tb cl pr sz T σ → (∀ j, 215 ≤ j → σ j = σ0 j) → f_X11_walk_u82 Q (f_X11_walk_u45 Q (f_X11_walk_u88 Q) N) σ w e x v := by
        intro σ hv iσ fσ
        unfold f_X11_walk_u82
        refine ⟨mt_I (by omega) (by omega), fun y ey => ?_⟩
        subst ey
        exact ih (v + 1) σ (by omega) (by omega) (by omega) iσ fσ
      refine ⟨fun c => ?_, fun c => ⟨v0, by omega, fun _ => ⟨fun _ => nx σ (by omega) iσ fσ, fun _ => ⟨v0, by omega, ?_⟩⟩⟩⟩
      · unfold f_X11_walk_u88
        have rr := iσ.2.2.2.2.2.1 w w0 (by omega)
        rw [iσ.1.1]
        exact ⟨w0, by omega, fun _ => s_follow a.2.2.1 a.2.2.2.1 e0 e1 rr.1 rr.2 (fun r _ => k r σ iσ fσ)⟩
      · obtain ⟨⟨g, s1, s2, s3⟩, -⟩ := IC_w iσ v0 (by omega)
        refine s_writeOut a.2.2.2.1 v0 (by omega) g s1 s2 iσ.2.2.2.2.2.1 (fun σ6 f6 q0 q1 => nx σ6 (by omega) ?_ (fun j hj => by rw [f6.1 j (by omega) (by omega) (by omega) (by omega)]; exact fσ j hj))
        obtain ⟨a', b', c', d', e', r', s'⟩ := iσ
        have fld : ∀ u b, 0 ≤ u → u < 16 → b ≠ 6 → b ≠ 7 → σ6 (119 + 6 * u) b = σ (119 + 6 * u) b := fun u b u0 u1 h6 h7 => by
          by_cases q : u = v
          · rw [q]; exact f6.2 b h6 h7
          · rw [f6.1 _ (by omega) (by omega) (by omega) (by omega)]
        have f6' := f6.1
        refine ⟨ic_A_k (f6' 1 (by omega) (by omega) (by omega) (by omega)) a', ic_B_k (f6' 2 (by omega) (by omega) (by omega) (by omega)) (f6' 3 (by omega) (by omega) (by omega) (by omega)) b', ic_C_k (f6' 4 (by omega) (by omega) (by omega) (by omega)) (f6' 5 (by omega) (by omega) (by omega) (by omega)) c', ic_D_k (fun u u0 u1 => fld u 3 u0 u1 (by omega) (by omega)) d', fun u u0 u1 => ⟨ic_T_k (fld u 1 u0 (by omega) (by omega) (by omega)) (fld u 2 u0 (by omega) (by omega) (by omega)) (f6' _ (by omega) (by omega) (by omega) (by omega)) (e' u u0 u1).1, mt_wv_eq (f6' _ (by omega) (by omega) (by omega) (by omega)) (f6' _ (by omega) (by omega) (by omega) (by omega)) (f6' _ (by omega) (by omega) (by omega) (by omega)) (e' u u0 u1).2⟩, fun u u0 u1 => ?_, ic_S_k (fun j h1 h2 => f6' j (by omega) (by omega) (by omega) (by omega)) s'⟩
        by_cases q : u = v
        · rw [q]; exact ⟨q0, q1⟩
        · rw [f6' _ (by omega) (by omega) (by omega) (by omega)]; exact r' u u0 u1
  exact L 20 0 σ0 (by omega) (by omega) (by omega) i (fun _ _ => rfl)
