/-! the class: a word is written out -/
/-- writing p's row: what may change -/
def mt_fro (p : Int) (σ σ' : ml_St) : Prop := (∀ j, j ≠ 9 → j ≠ 12 → j ≠ p → j ≠ p + 5 → σ' j = σ j) ∧ (∀ b, b ≠ 6 → b ≠ 7 → σ' p b = σ p b)
theorem mt_fro_t {p : Int} {σ σ1 σ2 : ml_St} (a : mt_fro p σ σ1) (b : mt_fro p σ1 σ2) : mt_fro p σ σ2 := ⟨fun j h1 h2 h3 h4 => by rw [b.1 j h1 h2 h3 h4, a.1 j h1 h2 h3 h4], fun j h1 h2 => by rw [b.2 j h1 h2, a.2 j h1 h2]⟩
theorem s_writeRow {Q : ml_St → Prop} {p q s n : Int} {σ : ml_St} (r0 : 0 ≤ σ p 6) (r1 : σ p 6 ≤ 2000) (s0 : 0 ≤ s) (n0 : 0 ≤ n) (sn : s + n ≤ 2000) (k : ∀ σ', (∀ j, j ≠ p → j ≠ p + 5 → σ' j = σ j) → (∀ b, b ≠ 6 → σ' p b = σ p b) → σ' p 6 = σ p 6 + min n (2000 - σ p 6) → (∀ j, σ' (p + 5) j = if σ p 6 ≤ j ∧ j < σ p 6 + min n (2000 - σ p 6) then σ q (s + (j - σ p 6)) else σ (p + 5) j) → Q σ') : f_X4_writeRow σ p q s n Q := by
  unfold f_X4_writeRow f_X4_writeRow_u0
  refine fun _ => ⟨mt_I (by omega) (by omega), fun y3 e3 _ => ⟨s0, r0, by omega, by omega, by omega, fun σ5 s5 => ?_⟩⟩
  have e5 : σ5 p = σ p := by rw [s5, mt_cpy_k (by omega)]
  rw [e5]
  refine fun _ => ⟨mt_I (by omega) (by omega), fun σ8 s8 => k σ8 (fun j h1 h2 => by rw [s8, ml_up_k h1, s5, mt_cpy_k h2]) (fun b hb => by rw [s8, ml_up_i hb, e5]) (by rw [s8, ml_up_same, e3]) (fun j => ?_)⟩
  rw [s8, ml_up_k (by omega), s5, mt_cpy2, e3]
  by_cases z : σ p 6 ≤ j ∧ j < σ p 6 + min n (2000 - σ p 6)
  · rw [if_pos ⟨rfl, z.1, z.2⟩, if_pos z]
  · rw [if_neg (fun y => z y.2), if_neg z]
/-- a row holds the first signs of E, P long -/
def mt_rw (p P : Int) (E : Int → Int) (σ : ml_St) : Prop := σ p 6 = min 2000 P ∧ ∀ j, 0 ≤ j → j < σ p 6 → σ (p + 5) j = E j
theorem mt_rw_k {p P : Int} {E : Int → Int} {σ σ' : ml_St} (e1 : σ' p 6 = σ p 6) (e2 : σ' (p + 5) = σ (p + 5)) (r : mt_rw p P E σ) : mt_rw p P E σ' := by unfold mt_rw; rw [e1, e2]; exact r
theorem s_repeatRow {Q : ml_St → Prop} {p A l tm : Int} {E : Int → Int} {σ : ml_St} (A0 : 0 ≤ A) (l0 : 0 ≤ l) (r : mt_rw p (A + l) E σ) (t0 : 0 ≤ tm) (t1 : tm < 1000000000) (k : ∀ σ', (∀ j, j ≠ p → j ≠ p + 5 → σ' j = σ j) → (∀ b, b ≠ 6 → σ' p b = σ p b) → mt_rw p (A + tm * l) (mt_wre A (A + l) E) σ' → Q σ') : f_X4_repeatRow σ p (min 2000 A) tm Q := by
  obtain ⟨r1, r2⟩ := r
  have el : A + l - A = l := by omega
  -- the item alone
  have base : ∀ j, 0 ≤ j → j < A + l → mt_wre A (A + l) E j = E j := fun j j0 j1 => by
    unfold mt_wre
    by_cases z : j < A
    · rw [if_pos z]
    · rw [if_neg z, el, Int.emod_eq_of_lt (by omega) (by omega), show A + (j - A) = j by omega]
  have L : ∀ (N : Nat) (x : Int) (σ1 : ml_St), tm ≠ 0 → 1 ≤ x → x ≤ tm → 2001 - σ1 p 6 < N → (∀ j, j ≠ p → j ≠ p + 5 → σ1 j = σ j) → (∀ b, b ≠ 6 → σ1 p b = σ p b) → mt_rw p (A + x * l) (mt_wre A (A + l) E) σ1 → f_X4_repeatRow_u19 Q (f_X4_repeatRow_u55 Q p) p N σ1 (min 2000 A) tm (min 2000 (A + l) - min 2000 A) x := by
    intro N
    induction N with
    | zero => intro x σ1 _ x0 x1 hN _ _ h; have := h.1; omega
    | succ N ih =>
      intro x σ1 tn x0 x1 hN f fb h
      obtain ⟨h1, h2⟩ := id h
      have xl : 1 * l ≤ x * l := Int.mul_le_mul_of_nonneg_right x0 l0
      have xt : x * l ≤ tm * l := Int.mul_le_mul_of_nonneg_right x1 l0
      have DN : min 2000 (A + x * l) = min 2000 (A + tm * l) → f_X4_repeatRow_u55 Q p σ1 := fun e => by
        unfold f_X4_repeatRow_u55
        exact k σ1 f fb ⟨by rw [h1, e], h2⟩
      unfold f_X4_repeatRow_u19
      refine ⟨fun c => DN (by rw [show x = tm by omega]), fun c => ⟨fun c2 => DN ?_, fun c2 _ => ⟨fun c3 => DN (by omega), fun c3 => ?_⟩⟩⟩
      · by_cases z : l = 0
        · rw [z, Int.mul_zero, Int.mul_zero]
        · omega
      · have sA : min 2000 A = A := by omega
        have sl : min 2000 (A + l) - min 2000 A = l := by omega
        rw [sl, sA]
        refine s_writeRow (by omega) (by omega) A0 l0 (by omega) (fun σ5 f5 fb5 e5 c5 => ⟨⟨by omega, by omega⟩, fun y e => ?_⟩)
        subst e
        have xs : (x + 1) * l = x * l + l := by rw [Int.add_mul, Int.one_mul]
        have go := ih (x + 1) σ5 tn (by omega) (by omega) (by omega) (fun j g1 g2 => by rw [f5 j g1 g2, f j g1 g2]) (fun b hb => by rw [fb5 b hb, fb b hb])
        rw [sl, sA] at go
        refine go ⟨by rw [e5, xs]; omega, fun j j0 j1 => ?_⟩
        rw [c5 j]
        by_cases z : σ1 p 6 ≤ j ∧ j < σ1 p 6 + min l (2000 - σ1 p 6)
        · rw [if_pos z, h2 _ (by omega) (by omega), base _ (by omega) (by omega)]
          unfold mt_wre
          rw [if_neg (by omega), el]
          have hx : j - A = (j - σ1 p 6) + l * x := by rw [Int.mul_comm]; omega
          rw [hx, Int.add_mul_emod_self_left, Int.emod_eq_of_lt (by omega) (by omega)]
        · rw [if_neg z]; exact h2 j j0 (by omega)
  unfold f_X4_repeatRow f_X4_repeatRow_u0
  rw [r1]
  refine fun _ => ⟨mt_I (by omega) (by omega), fun y3 e3 => ⟨fun tn => ?_, fun z σ5 s5 => ?_⟩⟩
  · rw [e3]
    unfold f_X4_repeatRow_u16
    exact ⟨2010, L 2010 1 σ tn (by omega) (by omega) (by omega) (fun _ _ _ => rfl) (fun _ _ => rfl) ⟨by rw [Int.one_mul]; exact r1, fun j j0 j1 => by rw [r2 j j0 j1, base j j0 (by omega)]⟩⟩
  · rw [e3]
    unfold f_X4_repeatRow_u16
    refine ⟨1, ?_⟩
    unfold f_X4_repeatRow_u19 f_X4_repeatRow_u55
    have go : Q σ5 := k σ5 (fun j h1 _ => by rw [s5, ml_up_k h1]) (fun b hb => by rw [s5, ml_up_i hb]) ⟨by rw [s5, ml_up_same, z, Int.zero_mul, Int.add_zero], fun j j0 j1 => by
      rw [s5, ml_up_same] at j1
      rw [s5, ml_up_k (by omega), r2 j j0 (by omega), base j j0 (by omega)]⟩
    exact ⟨fun _ => go, fun c => absurd c (by omega)⟩
theorem mb_i2b_s {x : Int} (h0 : 0 ≤ x) (h1 : x < 128) : b_i2b x = x := by
  have k : ∀ n : Nat, n < 128 → b_i2b (n : Int) = n := by decide +kernel
  have := k x.toNat (by omega)
  rw [show ((x.toNat : Nat) : Int) = x by omega] at this
  exact this
theorem s_writeSign {Q : ml_St → Prop} {p v P : Int} {E : Int → Int} {σ : ml_St} (P0 : 0 ≤ P) (r : mt_rw p P E σ) (v0 : 0 ≤ v) (v1 : v < 128) (k : ∀ σ', (∀ j, j ≠ p → j ≠ p + 5 → σ' j = σ j) → (∀ b, b ≠ 6 → σ' p b = σ p b) → mt_rw p (P + 1) (mt_wra P E (fun _ => v)) σ' → Q σ') : f_X4_writeSign σ p v Q := by
  obtain ⟨r1, r2⟩ := r
  unfold f_X4_writeSign f_X4_writeSign_u0
  unfold f_X4_writeSign_u31
  refine fun _ => ⟨fun c => k σ (fun _ _ _ => rfl) (fun _ _ => rfl) ⟨by omega, fun j j0 j1 => ?_⟩, fun c _ => ⟨by omega, by omega, fun σ4 s4 => ?_⟩⟩
  · unfold mt_wra; rw [if_pos (by omega)]; exact r2 j j0 j1
  have e4 : σ4 p = σ p := by rw [s4, ml_up_k (by omega)]
  rw [e4]
  refine fun _ => ⟨mt_I (by omega) (by omega), fun σ7 s7 => k σ7 (fun j h1 h2 => by rw [s7, ml_up_k h1, s4, ml_up_k h2]) (fun b hb => by rw [s7, ml_up_i hb, e4]) ⟨by rw [s7, ml_up_same]; omega, fun j j0 j1 => ?_⟩⟩
  rw [s7, ml_up_same] at j1
  rw [s7, ml_up_k (by omega), s4]
  unfold mt_wra
  by_cases z : j = σ p 6
  · rw [z, ml_up_same, if_neg (by omega), mb_i2b_s v0 v1]
  · rw [ml_up_i z, if_pos (by omega)]; exact r2 j j0 (by omega)
theorem s_writeOut {Q : ml_St → Prop} {h w n : Int} {t cx : Int → Int} {ex : Int → Int → Int} {σ0 : ml_St} (h5 : h ≤ 5) (w0 : 0 ≤ w) (w16 : w < 16) (g : mt_good h w t n) (en : σ0 (119 + 6 * w) 1 = n) (et : mt_teq n (σ0 (120 + 6 * w)) t) (hr : ∀ v, 0 ≤ v → v < w → 0 ≤ cx v ∧ mt_rw (119 + 6 * v) (cx v) (ex v) σ0) (k : ∀ σ, mt_fro (119 + 6 * w) σ0 σ → σ (119 + 6 * w) 7 = 1 → mt_rw (119 + 6 * w) (mt_ctw t n mt_one cx) (mt_wrw t n cx ex) σ → Q σ) : f_X4_writeOut σ0 (119 + 6 * w) Q := by
  have n1 := g.1
  have n100 := g.2.1
  have g4 : mt_gr (σ0 (120 + 6 * w)) n h w (n.toNat + 1) 0 0 1 = 0 := by rw [mt_gr_t et _ _ _ _ (Int.le_refl 0)]; exact g.2.2.2
  have ec : mt_ctw t n mt_one cx = mt_ctw (σ0 (120 + 6 * w)) n mt_one cx := (mt_ct_t (h := h) (w := w) (by omega) et (fun _ _ _ => rfl) _ _ _ 1 _ (Int.le_refl 0) (by omega) g4).symm
  have ew : mt_wrw t n cx ex = mt_wrw (σ0 (120 + 6 * w)) n cx ex := (mt_wr_t (h := h) (w := w) (by omega) et (fun _ _ _ => ⟨rfl, rfl⟩) _ _ _ 1 _ _ _ (Int.le_refl 0) (by omega) g4).symm
  rw [ec, ew] at k
  clear ec ew
  generalize hp : 119 + 6 * w = p at *
  have ep : 120 + 6 * w = p + 1 := by omega
  rw [ep] at g4 k
  have so0 : ∀ c, mt_one c = 1 := fun _ => rfl
  have tx : ml_tx (p + 1) := by rw [← ep]; exact mt_txw w0 w16
  have KE : ∀ σ, mt_fro p σ0 σ → mt_rw p (mt_ctw (σ0 (p + 1)) n mt_one cx) (mt_wrw (σ0 (p + 1)) n cx ex) σ → f_X4_writeOut_u183 Q p σ := by
    intro σ f q0
    unfold f_X4_writeOut_u183
    intro σ1 s1
    exact k σ1 (mt_fro_t f ⟨fun j _ _ h3 _ => by rw [s1, ml_up_k h3], fun b _ h2 => by rw [s1, ml_up_i h2]⟩) (by rw [s1, ml_up_same]) (mt_rw_k (by rw [s1, ml_up_i (by omega)]) (by rw [s1, ml_up_k (by omega)]) q0)
  have L : ∀ (F N : Nat) (i d need x4 : Int) (S U E : Int → Int) (σ : ml_St), σ 9 0 = p + 1 → σ 9 1 = n → σ 9 2 = i → mt_fro p σ0 σ → mt_rw p (U d + S d) E σ → (∀ k, 1 ≤ k → k ≤ d → σ 12 k = min 2000 (U k)) → (∀ k, 0 ≤ k → k < d → 0 ≤ S k ∧ U (k + 1) = U k + S k) → (∀ k, 0 ≤ k → k ≤ d → 0 ≤ U k) → U 0 = 0 → 0 ≤ S d → mt_ct (σ0 (p + 1)) n mt_one cx F i d S = mt_ctw (σ0 (p + 1)) n mt_one cx → mt_wr (σ0 (p + 1)) n cx ex F i d U (U d + S d) E = mt_wrw (σ0 (p + 1)) n cx ex → 0 ≤ i → i ≤ n → 0 ≤ d → d ≤ 6 → 0 ≤ x4 → x4 ≤ i → n - i < F → n - x4 < N → mt_gr (σ0 (p + 1)) n h w F i d need = 0 → f_X4_writeOut_u25 Q (f_X4_writeOut_u183 Q p) p N σ d x4 := by
    intro F
    induction F with
    | zero => intro N i d need x4 S U E σ _ _ _ _ _ _ _ _ _ _ _ _ i0 i1 d0 d6 x0 x1 hF; omega
    | succ F ih =>
      intro N i d need x4 S U E σ e0 e1 e2 f q0 hs hm hU U0 Sd hx hy i0 i1 d0 d6 x0 x1 hF hN g
      obtain ⟨N, rfl⟩ : ∃ N', N = N' + 1 := ⟨N - 1, by omega⟩
      have etx : σ (p + 1) = σ0 (p + 1) := f.1 _ (by omega) (by omega) (by omega) (by omega)
      unfold mt_ct at hx
      unfold mt_wr at hy
      have e1' : σ p 1 = n := by rw [f.2 1 (by omega) (by omega), en]
      unfold f_X4_writeOut_u25
      rw [e1']
      have gc := mt_gr_c (by omega) i0 g
      have fin : n ≤ i → mt_rw p (mt_ctw (σ0 (p + 1)) n mt_one cx) (mt_wrw (σ0 (p + 1)) n cx ex) σ := fun c => by
        have d00 : d = 0 := by rcases gc with z | z | z | z | z <;> omega
        subst d00
        rw [if_pos c] at hx hy
        rw [← hx, ← hy]
        rw [U0, Int.zero_add] at q0; exact q0
      refine fun _ => ⟨fun c => KE σ f (fin (by omega)), fun c => ?_⟩
      -- behind an item
      have AF : ∀ (i' d' : Int) (S' U' E' : Int → Int) (a l : Int) (σ2 : ml_St), σ2 9 0 = p + 1 → σ2 9 1 = n → σ2 9 2 = i' → 0 ≤ σ2 9 5 → σ2 9 5 < 1000000000 → mt_fro p σ0 σ2 → 0 ≤ a → 0 ≤ l → mt_rw p (U' d' + a + l) E' σ2 → (∀ k, 1 ≤ k → k ≤ d' → σ2 12 k = min 2000 (U' k)) → (∀ k, 0 ≤ k → k < d' → 0 ≤ S' k ∧ U' (k + 1) = U' k + S' k) → (∀ k, 0 ≤ k → k ≤ d' → 0 ≤ U' k) → U' 0 = 0 → mt_ct (σ0 (p + 1)) n mt_one cx F i' d' (mt_st S' d' (a + σ2 9 5 * l)) = mt_ctw (σ0 (p + 1)) n mt_one cx → mt_wr (σ0 (p + 1)) n cx ex F i' d' U' (U' d' + a + σ2 9 5 * l) (mt_wre (U' d' + a) (U' d' + a + l) E') = mt_wrw (σ0 (p + 1)) n cx ex → i < i' → i' ≤ n → 0 ≤ d' → d' ≤ 6 → mt_gr (σ0 (p + 1)) n h w F i' d' 0 = 0 → f_X4_writeOut_u164 Q (f_X4_writeOut_u25 Q (f_X4_writeOut_u183 Q p) p N) p σ2 d' x4 (min 2000 (U' d' + a)) := by
        intro i' d' S' U' E' a l σ2 e0 e1 e2 t0 t1 f2 a0 l0 r2 hs2 hm2 hU2 U02 hx2 hy2 ii' in' d0' d6' g'
        have Ud := hU2 d' d0' (Int.le_refl _)
        have tl := Int.mul_nonneg t0 l0
        unfold f_X4_writeOut_u164
        refine fun _ => s_repeatRow (by omega) l0 r2 t0 t1 (fun σ3 f3 fb3 h1 => ?_)
        unfold f_X4_writeOut_u177
        refine ⟨mt_I (by omega) (by omega), fun y1 ey1 => ?_⟩
        subst ey1
        have e9 : σ3 9 = σ2 9 := f3 9 (by omega) (by omega)
        have e12 : σ3 12 = σ2 12 := f3 12 (by omega) (by omega)
        have sd : mt_st S' d' (a + σ2 9 5 * l) d' = a + σ2 9 5 * l := if_pos rfl
        refine ih N i' d' 0 (x4 + 1) (mt_st S' d' (a + σ2 9 5 * l)) U' _ σ3 (by rw [e9, e0]) (by rw [e9, e1]) (by rw [e9, e2]) (mt_fro_t f2 ⟨fun j _ _ h3 h4 => f3 j h3 h4, fun b hb _ => fb3 b hb⟩) (by rw [sd, ← Int.add_assoc]; exact h1) (by rw [e12]; exact hs2) (fun k k0 k1 => ?_) hU2 U02 (by rw [sd]; omega) hx2 (by rw [sd, ← Int.add_assoc]; exact hy2) (by omega) in' d0' d6' (by omega) (by omega) (by omega) (by omega) g'
        unfold mt_st; rw [if_neg (by omega)]; exact hm2 k k0 k1
      have eta := mt_is_eta e0 e1 e2
      have ff3 : ∀ (i kd v tm : Int), mt_is σ (p + 1) n i kd v tm 9 3 = kd := fun _ _ _ _ => rfl
      have ff4 : ∀ (i kd v tm : Int), mt_is σ (p + 1) n i kd v tm 9 4 = v := fun _ _ _ _ => rfl
      have fI : ∀ (i kd v tm : Int), mt_fro p σ0 (mt_is σ (p + 1) n i kd v tm) := fun i kd v tm => mt_fro_t f ⟨fun j h1 _ _ _ => mt_is_k h1, fun b _ _ => by rw [mt_is_k (by omega)]⟩
      have pI : ∀ (i kd v tm : Int), mt_is σ (p + 1) n i kd v tm p = σ p := fun i kd v tm => mt_is_k (by omega)
      have rI : ∀ (i kd v tm : Int), mt_is σ (p + 1) n i kd v tm (p + 5) = σ (p + 5) := fun i kd v tm => mt_is_k (by omega)
      have Ud := hU d d0 (Int.le_refl _)
      have sI : ∀ (i kd v tm : Int), mt_is σ (p + 1) n i kd v tm 12 = σ 12 := fun i kd v tm => mt_is_k (by omega)
      rw [eta]
      rw [← etx] at g AF ih hx hy fin KE
      refine s_step (h := h) (w := w) (d := d) (need := need) (F := F) tx (by omega) i0 i1 n100 h5 g ?_ ?_ ?_ ?_ ?_
      · intro _ _ _ _
        exact ⟨fun _ => KE _ (fI _ _ _ _) (mt_rw_k (by rw [pI]) (rI _ _ _ _) (fin (by omega))), fun c => absurd rfl c⟩
      · intro z1 z2 z3 z4
        refine fun _ => ⟨fun c => absurd c (by omega), fun _ => ?_⟩
        rw [pI]
        intro _ y6 e6
        subst e6
        rw [ff3]
        refine fun _ => ⟨fun c => absurd rfl c, fun _ => ⟨mt_I (by omega) (by omega), fun y26 e26 => ?_⟩⟩
        have e26 : y26 = d + 1 := by omega
        subst e26
        refine ⟨by omega, by omega, fun σ27 s27 => ?_⟩
        unfold f_X4_writeOut_u177
        refine ⟨mt_I (by omega) (by omega), fun y1 ey1 => ?_⟩
        subst ey1
        have k27 : ∀ j, j ≠ 12 → σ27 j = mt_is σ (p + 1) n (i + 1) 0 (σ 9 4) 1 j := fun j hj => by rw [s27, ml_up_k hj]
        rw [if_neg (by omega), if_pos z2] at hx hy
        have u1 : mt_st U (d + 1) (U d + S d) (d + 1) = U d + S d := if_pos rfl
        have u2 : mt_st S (d + 1) 0 (d + 1) = 0 := if_pos rfl
        refine ih N (i + 1) (d + 1) 1 (x4 + 1) (mt_st S (d + 1) 0) (mt_st U (d + 1) (U d + S d)) E σ27 (by rw [k27 9 (by omega)]; rfl) (by rw [k27 9 (by omega)]; rfl) (by rw [k27 9 (by omega)]; rfl) (mt_fro_t (fI _ _ _ _) ⟨fun j _ h2 _ _ => k27 j h2, fun b _ _ => by rw [k27 p (by omega)]⟩) (by rw [u1, u2, Int.add_zero]; exact mt_rw_k (by rw [k27 p (by omega), pI]) (by rw [k27 _ (by omega), rI]) q0) (fun k k0 k1 => ?_) (fun k k0 k1 => ?_) (fun k k0 k1 => ?_) (by unfold mt_st; rw [if_neg (by omega)]; exact U0) (by rw [u2]; omega) hx (by rw [u1, u2, Int.add_zero]; exact hy) (by omega) (by omega) (by omega) (by omega) (by omega) (by omega) (by omega) (by omega) z4
        · rw [s27]
          by_cases q : k = d + 1
          · rw [q, ml_up_same, u1, q0.1]
          · rw [ml_up_i q, sI]; unfold mt_st; rw [if_neg q]; exact hs k k0 (by omega)
        · unfold mt_st
          rw [if_neg (show ¬ k = d + 1 by omega), if_neg (show ¬ k = d + 1 by omega)]
          by_cases q : k = d
          · rw [q, if_pos rfl]; exact ⟨Sd, rfl⟩
          · rw [if_neg (show ¬ k + 1 = d + 1 by omega)]; exact hm k k0 (by omega)
        · unfold mt_st
          by_cases q : k = d + 1
          · rw [if_pos q]; omega
          · rw [if_neg q]; exact hU k k0 (by omega)
      · intro z1 z2 z3 z4 z5 z6
        refine fun _ => ⟨fun c => absurd c (by omega), fun _ => ?_⟩
        rw [pI]
        intro _ y6 e6
        subst e6
        rw [ff3, sI]
        have r := mt_tn_r (t := σ (p + 1)) (n := n) (i := i + 1) (by omega)
        have rt := mt_tm_r (t := σ (p + 1)) (n := n) (i := i + 1) (by omega) z5
        rw [if_neg (by omega), if_neg (by omega), if_pos z2] at hx hy
        obtain ⟨m1, m2⟩ := hm (d - 1) (by omega) (by omega)
        rw [show d - 1 + 1 = d by omega] at m2
        have s12 := hs d (by omega) (by omega)
        refine fun _ => ⟨fun _ _ => ⟨fun c => absurd rfl c, fun _ => ⟨d0, by omega, fun _ y22 e22 => ⟨mt_I (by omega) (by omega), fun y24 e24 => ?_⟩⟩⟩, fun c => absurd c (by omega)⟩
        have e24 : y24 = d - 1 := by omega
        subst e24
        have e22 : y22 = min 2000 (U (d - 1) + S (d - 1)) := by rw [e22, s12, m2]
        subst e22
        exact AF (mt_tn (σ (p + 1)) n (i + 1)) (d - 1) S U E (S (d - 1)) (S d) _ rfl rfl rfl rt.1 rt.2 (fI _ _ _ _) m1 Sd (by rw [← m2]; exact mt_rw_k (by rw [pI]) (rI _ _ _ _) q0) (fun k k0 k1 => by rw [sI]; exact hs k k0 (by omega)) (fun k k0 k1 => hm k k0 (by omega)) (fun k k0 k1 => hU k k0 (by omega)) U0 hx (by rw [← m2]; rw [show U d + S d - U d = S d by omega] at hy; exact hy) (by omega) r.2 (by omega) (by omega) z6
      · intro z1 z2 z3 z4 z5 z6
        refine fun _ => ⟨fun c => absurd c (by omega), fun _ => ?_⟩
        rw [pI]
        intro _ y6 e6
        subst e6
        rw [ff3, ff4]
        have r := mt_tn_r (t := σ (p + 1)) (n := n) (i := i + 2) (by omega)
        have rt := mt_tm_r (t := σ (p + 1)) (n := n) (i := i + 2) (by omega) z5
        refine fun _ => ⟨fun _ _ => ⟨fun _ _ => ⟨fun c => absurd rfl c, fun _ _ => ?_⟩, fun c => absurd c (by omega)⟩, fun c => absurd c (by omega)⟩
        rw [if_neg (by omega), if_neg (by omega), if_neg (by omega), if_pos z2] at hx hy
        have vr : 0 ≤ 2 * (σ (p + 1) (i + 1) - 48) + (if σ (p + 1) i = 117 then 1 else 0) ∧ 2 * (σ (p + 1) (i + 1) - 48) + (if σ (p + 1) i = 117 then 1 else 0) < 128 := by split <;> omega
        refine s_writeSign (P := U d + S d) (E := E) (by omega) (mt_rw_k (by rw [pI]) (rI _ _ _ _) q0) vr.1 vr.2 (fun σ3 f3 fb3 h1 => ?_)
        have e9 : σ3 9 = mt_is σ (p + 1) n (mt_tn (σ (p + 1)) n (i + 2)) 2 (2 * (σ (p + 1) (i + 1) - 48) + (if σ (p + 1) i = 117 then 1 else 0)) (mt_tm (σ (p + 1)) n (i + 2)) 9 := f3 9 (by omega) (by omega)
        have e12 : σ3 12 = σ 12 := by rw [f3 12 (by omega) (by omega), sI]
        have e95 : σ3 9 5 = mt_tm (σ (p + 1)) n (i + 2) := by rw [e9]; rfl
        rw [q0.1]
        exact AF (mt_tn (σ (p + 1)) n (i + 2)) d S U _ (S d) 1 σ3 (by rw [e9]; rfl) (by rw [e9]; rfl) (by rw [e9]; rfl) (by rw [e95]; exact rt.1) (by rw [e95]; exact rt.2) (mt_fro_t (fI _ _ _ _) ⟨fun j _ _ h3 h4 => f3 j h3 h4, fun b hb _ => fb3 b hb⟩) Sd (by omega) h1 (by rw [e12]; exact hs) hm hU U0 (by rw [e95]; exact hx) (by rw [e95]; exact hy) (by omega) r.2 d0 d6 z6
      · intro z1 z2 z3 z4 z5 z6
        refine fun _ => ⟨fun c => absurd c (by omega), fun _ => ?_⟩
        rw [pI]
        intro _ y6 e6
        subst e6
        rw [ff3, ff4]
        have r := mt_tn_r (t := σ (p + 1)) (n := n) (i := i + 1) (by omega)
        have rt := mt_tm_r (t := σ (p + 1)) (n := n) (i := i + 1) (by omega) z5
        rw [if_neg (by omega), if_neg (by omega), if_neg (by omega), if_neg (by omega)] at hx hy
        obtain ⟨c0, c1, c2⟩ := hr (σ (p + 1) i - 65) (by omega) (by omega)
        have fv : ∀ j, j = 119 + 6 * (σ (p + 1) i - 65) ∨ j = 119 + 6 * (σ (p + 1) i - 65) + 5 → σ j = σ0 j := fun j hj => f.1 j (by omega) (by omega) (by omega) (by omega)
        rw [← fv _ (Or.inl rfl)] at c1 c2
        rw [← fv _ (Or.inr rfl)] at c2
        refine fun _ => ⟨fun _ _ => ⟨fun _ _ => ⟨fun _ _ => ⟨by omega, by omega, fun _ => ⟨by omega, by omega, fun _ => ?_⟩⟩, fun c => absurd c (by omega)⟩, fun c => absurd c (by omega)⟩, fun c => absurd c (by omega)⟩
        rw [mt_is_k (show 119 + 6 * (σ (p + 1) i - 65) ≠ 9 by omega)]
        obtain ⟨q1, q2⟩ := id q0
        refine s_writeRow (by rw [pI]; omega) (by rw [pI]; omega) (by omega) (by omega) (by omega) (fun σ3 f3 fb3 e3 c3 => ?_)
        rw [pI] at e3
        have e9 : σ3 9 = mt_is σ (p + 1) n (mt_tn (σ (p + 1)) n (i + 1)) 3 (σ (p + 1) i - 65) (mt_tm (σ (p + 1)) n (i + 1)) 9 := f3 9 (by omega) (by omega)
        have e12 : σ3 12 = σ 12 := by rw [f3 12 (by omega) (by omega), sI]
        have e95 : σ3 9 5 = mt_tm (σ (p + 1)) n (i + 1) := by rw [e9]; rfl
        have h1 : mt_rw p (U d + S d + cx (σ (p + 1) i - 65)) (mt_wra (U d + S d) E (ex (σ (p + 1) i - 65))) σ3 := by
          refine ⟨by rw [e3, q1, c1]; omega, fun j j0 j1 => ?_⟩
          rw [c3 j, pI, rI, mt_is_k (show 119 + 6 * (σ (p + 1) i - 65) + 5 ≠ 9 by omega)]
          unfold mt_wra
          by_cases z : σ p 6 ≤ j ∧ j < σ p 6 + min (σ (119 + 6 * (σ (p + 1) i - 65)) 6) (2000 - σ p 6)
          · rw [if_pos z, if_neg (by omega), show U d + S d = σ p 6 by omega, Int.zero_add]
            exact c2 _ (by omega) (by omega)
          · rw [if_neg z, if_pos (by omega)]; exact q2 j j0 (by omega)
        rw [q1]
        exact AF (mt_tn (σ (p + 1)) n (i + 1)) d S U _ (S d) (cx (σ (p + 1) i - 65)) σ3 (by rw [e9]; rfl) (by rw [e9]; rfl) (by rw [e9]; rfl) (by rw [e95]; exact rt.1) (by rw [e95]; exact rt.2) (mt_fro_t (fI _ _ _ _) ⟨fun j _ _ h3 h4 => f3 j h3 h4, fun b hb _ => fb3 b hb⟩) Sd c0 h1 (by rw [e12]; exact hs) hm hU U0 (by rw [e95]; exact hx) (by rw [e95]; exact hy) (by omega) r.2 d0 d6 z6
  unfold f_X4_writeOut f_X4_writeOut_u0
  intro σ1 s1
  rw [show σ1 p 1 = n by rw [s1, ml_up_i (by omega), en]]
  have f1 : mt_fro p σ0 σ1 := ⟨fun j _ _ h3 _ => by rw [s1, ml_up_k h3], fun b h1 _ => by rw [s1, ml_up_i h1]⟩
  refine fun _ => s_begin ⟨n.toNat + 1, ?_⟩
  refine L (n.toNat + 1) _ 0 0 1 0 (fun _ => 0) (fun _ => 0) (fun _ => 0) _ rfl rfl rfl (mt_fro_t f1 ⟨fun j h1 _ _ _ => mt_is_k h1, fun b _ _ => by rw [mt_is_k (by omega)]⟩) ⟨?_, fun j j0 j1 => ?_⟩ (fun k k0 k1 => absurd k1 (by omega)) (fun k k0 k1 => absurd k1 (by omega)) (fun k _ _ => Int.le_refl 0) rfl (Int.le_refl 0) rfl rfl (by omega) (by omega) (by omega) (by omega) (by omega) (by omega) (by omega) (by omega) g4
  · rw [mt_is_k (by omega), s1, ml_up_same]; omega
  · rw [mt_is_k (by omega), s1, ml_up_same] at j1; omega
