/-! the class: a weave with another behind it -/
def mt_wv (h : Int) (σ : ml_St) (k : Int) (v : Int → Int) : Prop := (∀ e, 0 ≤ e → e < 2 * h → σ (k + 1) e = v e ∧ σ (k + 2) e = v (10 + e)) ∧ σ k 2 = v 20 ∧ σ k 3 = v 21 ∧ σ k 4 = v 22 ∧ σ k 5 = v 23 ∧ σ k 6 = v 24 ∧ σ k 7 = v 25
/-- all but the weave k is as it was -/
def mt_fr (k : Int) (σ σ' : ml_St) : Prop := ∀ j, j ≠ k → j ≠ k + 1 → j ≠ k + 2 → σ' j = σ j
theorem mt_fr_up {k i v : Int} {σ : ml_St} : mt_fr k σ (ml_up σ k i v) := fun j h1 _ _ => ml_up_k h1
theorem mt_fr_up1 {k i v : Int} {σ : ml_St} : mt_fr k σ (ml_up σ (k + 1) i v) := fun j _ h1 _ => ml_up_k h1
theorem mt_fr_up2 {k i v : Int} {σ : ml_St} : mt_fr k σ (ml_up σ (k + 2) i v) := fun j _ _ h1 => ml_up_k h1
theorem mt_fr_t {k : Int} {σ σ1 σ2 : ml_St} (a : mt_fr k σ σ1) (b : mt_fr k σ1 σ2) : mt_fr k σ σ2 := fun j h1 h2 h3 => by rw [b j h1 h2 h3, a j h1 h2 h3]
theorem mt_fr_r {k : Int} {σ : ml_St} : mt_fr k σ σ := fun _ _ _ _ => rfl
theorem mt_wv_fr {h k th : Int} {σ σ' : ml_St} {v : Int → Int} (f : mt_fr th σ σ') (d : th + 3 ≤ k ∨ k + 3 ≤ th) (w : mt_wv h σ k v) : mt_wv h σ' k v := by
  unfold mt_wv
  rw [f k (by omega) (by omega) (by omega), f (k + 1) (by omega) (by omega) (by omega), f (k + 2) (by omega) (by omega) (by omega)]
  exact w
theorem s_addLoop {Q : Int → ml_St → Prop} {th p2 p3 h r m : Int} {σ : ml_St} {a b : Int → Int} (h2 : 2 ≤ h) (h5 : h ≤ 5) (ha : mt_M h a) (hb : mt_M h b) (wa : mt_wv h σ p2 a) (wb : mt_wv h σ p3 b) (hm : mt_C h a b m) (r0 : 0 ≤ r) (r1 : r < h) (hr : mb_t m r = 0)
    (q : I32 (mt_rg h a b r).1 → Q (mt_rg h a b r).1 (ml_up (ml_up (ml_up σ th 2 (w64 (σ th 2 + 1))) th 3 (max (σ th 3) (mt_rg h a b r).2.1)) th 4 (w64 (σ th 4 + (mt_rg h a b r).2.1)))) : f_X9_addLoop σ th p2 p3 r h Q := by
  obtain ⟨o, t, e1, e2, o0, o1, t0, t1, n1, n2, e3, e4, z1, z2, c⟩ := mt_rg_C h5 ha hb hm r0 r1 hr
  have at1 : a (o + h) - h = t := by omega
  obtain ⟨so, so2⟩ := mb_shl_m (k := 5) (by omega) o0 (by omega)
  obtain ⟨st, st2⟩ := mb_shl_m (k := 5) (by omega) t0 (by omega)
  obtain ⟨s2, s22⟩ := mb_or_m (k := 5) (by omega) so st
  obtain ⟨s3, s32⟩ := mb_or_m (k := 5) (a := 0) (by omega) ⟨by omega, by omega⟩ s2
  have hI : ∀ x : Int, 0 ≤ x → x < 100 → I32 x := fun x _ _ => ⟨by omega, by omega⟩
  have rd : ∀ x o t : Int, 0 ≤ x → x < h → b x = o → a (o + h) = t + h → 0 ≤ o → o < h → 0 ≤ t → t < h → σ (p3 + 1) x = o ∧ σ (p3 + 2) x = b (10 + x) ∧ σ (p2 + 1) (o + h) = t + h ∧ σ (p2 + 2) (o + h) = a (10 + (o + h)) ∧ Int.tmod o h = o ∧ Int.tmod (t + h) h = t := by
    intro x o t x0 x1 f1 f2 p0 p1 q0 q1
    have g := wb.1 x x0 (by omega)
    have g2 := wa.1 (o + h) (by omega) (by omega)
    refine ⟨by rw [g.1, f1], g.2, by rw [g2.1, f2], g2.2, Int.tmod_eq_of_lt p0 p1, ?_⟩
    rw [Int.tmod_eq_emod_of_nonneg (by omega), Int.add_emod_right, Int.emod_eq_of_lt q0 q1]
  have fin : ∀ m s, mt_rg h a b r = (m, s, r) → f_X9_addLoop_u98 Q th p2 p3 σ m s := by
    intro m s em
    unfold f_X9_addLoop_u98
    have q := q (by
      have := (mt_rg_e h5 ha hb hm r0 r1 hr).1
      exact ⟨by have := this.1; omega, by have := this.2; omega⟩)
    rw [em] at q
    intro _ σ3 f3 _ σ5 f5 _ σ8 f8
    subst f3; rw [ml_up_i (by omega)] at f5; subst f5; rw [ml_up_i (by omega), ml_up_i (by omega)] at f8; subst f8
    exact q
  -- one step of the loop
  have one : ∀ (N : Nat) (x o t s m x9 : Int), 0 ≤ x → x < h → b x = o → a (o + h) = t + h → 0 ≤ o → o < h → 0 ≤ t → t < h → mb_t m r = 0 → 0 ≤ x9 → x9 ≤ 10 →
      f_X9_addLoop_u12 Q (f_X9_addLoop_u98 Q th p2 p3) th p2 p3 N σ r h (mt_r1 h a b m s x).1 t (mt_r1 h a b m s x).2.1 (x9 + 1) → f_X9_addLoop_u12 Q (f_X9_addLoop_u98 Q th p2 p3) th p2 p3 (N + 1) σ r h m x s x9 := by
    intro N x o t s m x9 x0 x1 f1 f2 p0 p1 q0 q1 hmr h9 h91 k
    obtain ⟨g1, g2, g3, g4, g5, g6⟩ := rd x o t x0 x1 f1 f2 p0 p1 q0 q1
    unfold f_X9_addLoop_u12
    have hmr : b_and (b_shr m r) 1 = 0 := hmr
    refine ⟨fun c => absurd hmr c, fun _ => ⟨fun c => absurd c (by omega), fun _ => ⟨x0, by omega, fun _ => ?_⟩⟩⟩
    rw [g1, g2, g5]
    refine ⟨by omega, hI _ p0 (by omega), fun y5 f5 => ?_⟩
    subst f5
    rw [g3, g4, g6]
    refine ⟨x0, by omega, fun _ => ⟨hI _ (by omega) (by omega), by omega, by omega, fun _ y11 f11 => ⟨hI _ (by omega) (by omega), by omega, by omega, fun _ => ⟨by omega, hI _ q0 (by omega), fun y15 f15 y16 f16 => ⟨hI _ (by omega) (by omega), fun y17 f17 => ?_⟩⟩⟩⟩⟩
    subst f11; subst f15; subst f16; subst f17
    unfold mt_r1 at k
    rw [f1, show a (y5 + h) - h = y15 by omega] at k
    exact k
  have e15 : (mt_r1 h a b 0 0 r).1 = b_or 0 (b_or (b_shl 1 o) (b_shl 1 t)) := by unfold mt_r1; rw [e1, at1]
  have e17 : (mt_r1 h a b 0 0 r).2.2 = t := by unfold mt_r1; rw [e1, at1]
  unfold f_X9_addLoop f_X9_addLoop_u0
  refine ⟨3, one 2 r o t 0 0 0 r0 r1 e1 e2 o0 o1 t0 t1 (mb_0 r) (by omega) (by omega) ?_⟩
  have bit1 : mb_t (mt_r1 h a b 0 0 r).1 r = if r = t then 1 else 0 := by
    rw [e15, s32 r r0 (by omega), s22 r r0 (by omega), so2 r r0 (by omega), st2 r r0 (by omega), mb_0]
    rw [if_neg (Ne.symm n1)]
    by_cases z : r = t <;> simp [z]
  rcases c with c | ⟨nc, o2, f1, f2, p0, p1, k1, k2, k3, f3, f4, y1⟩
  · rw [if_pos c.symm] at bit1
    have er : mt_rg h a b r = mt_r1 h a b 0 0 r := by unfold mt_rg; rw [if_pos (by rw [e17, c])]
    unfold f_X9_addLoop_u12
    refine ⟨fun _ => fin _ _ ?_, fun d => ?_⟩
    · rw [er]
      conv => lhs; rw [show mt_r1 h a b 0 0 r = ((mt_r1 h a b 0 0 r).1, (mt_r1 h a b 0 0 r).2.1, (mt_r1 h a b 0 0 r).2.2) from rfl]
      rw [e17, c]
    · have bit1 : b_and (b_shr (mt_r1 h a b 0 0 r).1 r) 1 = 1 := bit1
      omega
  · rw [if_neg (fun d => nc d.symm)] at bit1
    have er : mt_rg h a b r = mt_r1 h a b (mt_r1 h a b 0 0 r).1 (mt_r1 h a b 0 0 r).2.1 t := by unfold mt_rg; rw [e17, if_neg nc]
    have e27 : (mt_rg h a b r).2.2 = r := by rw [er]; show a (b t + h) - h = r; rw [f1]; omega
    refine one 1 t o2 r _ _ 1 t0 t1 f1 f2 p0 p1 r0 r1 bit1 (by omega) (by omega) ?_
    rw [← er]
    have bit2 : b_and (b_shr (mt_rg h a b r).1 r) 1 = 1 := by
      have g := (mt_rg_e h5 ha hb hm r0 r1 hr)
      have e28 : (mt_rg h a b r).1 = b_or (mt_r1 h a b 0 0 r).1 (b_or (b_shl 1 o2) (b_shl 1 r)) := by
        rw [er]
        conv => lhs; unfold mt_r1
        rw [f1, show a (o2 + h) - h = r by omega]
        rfl
      obtain ⟨so', so2'⟩ := mb_shl_m (k := 5) (by omega) p0 (by omega)
      obtain ⟨st', st2'⟩ := mb_shl_m (k := 5) (by omega) r0 (by omega)
      obtain ⟨s2', s22'⟩ := mb_or_m (k := 5) (by omega) so' st'
      rw [← e15] at s3
      obtain ⟨s3', s32'⟩ := mb_or_m (k := 5) (by omega) s3 s2'
      have : mb_t (mt_rg h a b r).1 r = 1 := by
        rw [e28, s32' r r0 (by omega), s22' r r0 (by omega), st2' r r0 (by omega)]
        simp
      exact this
    unfold f_X9_addLoop_u12
    refine ⟨fun _ => fin _ _ ?_, fun d => by omega⟩
    conv => lhs; rw [show mt_rg h a b r = ((mt_rg h a b r).1, (mt_rg h a b r).2.1, (mt_rg h a b r).2.2) from rfl]
    rw [e27]
