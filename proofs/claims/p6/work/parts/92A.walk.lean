/-! the class: walk -/
/-- where a walk from an end begins -/
def mw_0 (h len e : Int) : Int × Int × Int := (if e < h then 0 else len - 1, if e < h then e else e - h, if e < h then 1 else 0)
def mw_c (told h : Int) (T : Int → Int → Int) (sz : Int → Int) (w e x : Int) : Prop := 0 ≤ w ∧ w < told ∧ mt_cn mt_one T sz w ≤ 2000 ∧ 0 ≤ e ∧ e < 2 * h ∧ -1 ≤ x
def mw_a (h : Int) (T : Int → Int → Int) (sz : Int → Int) (w e x : Int) : Int := mw (mt_ex T sz w) (mt_cn mt_one T sz w) x h 20000 (mw_0 h (mt_cn mt_one T sz w) e) 0
theorem c_walk {Q : Int → ml_St → Prop} {h told ts cap w e x : Int} {tb cl pr sz : Int → Int} {T : Int → Int → Int} {σ0 : ml_St} (i : IC h told ts cap tb cl pr sz T σ0) (k1 : mw_c told h T sz w e x → ∀ σ, IC h told ts cap tb cl pr sz T σ → (∀ j, 215 ≤ j → σ j = σ0 j) → Q (mw_a h T sz w e x) σ) (k0 : ¬ mw_c told h T sz w e x → Q (-1) σ0) : f_X11_walk σ0 w e x Q := by
  have a := i.1
  have t16 := a.2.2.2.2.2
  unfold f_X11_walk f_X11_walk_u0
  unfold f_X11_walk_u40
  refine s_isTold a.2.1 (fun w0 w1 _ => ⟨fun z => absurd z (by omega), fun _ => ⟨w0, by omega, ?_⟩⟩) (fun n _ => ⟨fun _ => k0 (fun y => n ⟨y.1, y.2.1⟩), fun z => absurd rfl z⟩)
  have cv := IC_cv i w0 w1
  have e23 : σ0 (119 + 6 * w + 2) 5 = min mt_top (mt_cn mt_one T sz w) := by
    rw [show 119 + 6 * w + 2 = 121 + 6 * w by omega, (IC_w i w0 w1).2.1.2.2.2.2.1, cv.2.2.2.1]
  have C0 := cv.1
  rw [e23]
  unfold mt_top
  refine fun _ => ⟨fun z => k0 (fun y => by have := y.2.2.1; omega), fun few => s_isEnd a.2.2.1 a.2.2.2.1 a.1 (fun e0 e1 _ => ⟨fun z => absurd z (by omega), fun _ => ⟨fun x0 => ⟨20, ?_⟩, fun z => k0 (fun y => z y.2.2.2.2.2)⟩⟩) (fun n _ => ⟨fun _ => k0 (fun y => n ⟨y.2.2.2.1, y.2.2.2.2.1⟩), fun z => absurd rfl z⟩)⟩
  have k1 := k1 ⟨w0, w1, by omega, e0, e1, x0⟩
  have L : ∀ (N : Nat) (v : Int) (σ : ml_St), 0 ≤ v → v ≤ w + 1 → w + 1 - v < N → IC h told ts cap tb cl pr sz T σ → (∀ j, 215 ≤ j → σ j = σ0 j) → (∀ u, 0 ≤ u → u < v → σ (119 + 6 * u) 7 ≠ 0) → f_X11_walk_u45 Q (f_X11_walk_u88 Q) N σ w e x v := by
    intro N
    induction N with
    | zero => intro v σ v0 v1 hN; omega
    | succ N ih =>
      intro v σ v0 v1 hN iσ fσ fl
      unfold f_X11_walk_u45
      have nx : ∀ σ, v ≤ w → IC h told ts cap tb cl pr sz T σ → (∀ j, 215 ≤ j → σ j = σ0 j) → (∀ u, 0 ≤ u → u < v + 1 → σ (119 + 6 * u) 7 ≠ 0) → f_X11_walk_u82 Q (f_X11_walk_u45 Q (f_X11_walk_u88 Q) N) σ w e x v := by
        intro σ hv iσ fσ fl
        unfold f_X11_walk_u82
        refine ⟨mt_I (by omega) (by omega), fun y ey => ?_⟩
        subst ey
        exact ih (v + 1) σ (by omega) (by omega) (by omega) iσ fσ fl
      have good : ∀ u : Nat, (u : Int) < told → mt_good h u (T u) (sz u) := fun u hu => (IC_w iσ (by omega) hu).1.1
      refine ⟨fun c => ?_, fun c => ⟨v0, by omega, fun _ => ⟨fun z => nx σ (by omega) iσ fσ (fun u u0 u1 => by
        by_cases q : u = v
        · rw [q]; exact z
        · exact fl u u0 (by omega)), fun _ => ⟨v0, by omega, ?_⟩⟩⟩⟩
      · unfold f_X11_walk_u88
        obtain ⟨rr1, rr2⟩ := iσ.2.2.2.2.2.1 w w0 (by omega)
        obtain ⟨r1, r2⟩ := rr2 w1 (fl w w0 (by omega))
        rw [iσ.1.1]
        have mv : mw_v h (mt_ex T sz w) := by
          have := mt_ex_v (h := h) (T := T) (sz := sz) a.2.2.1 w.toNat (by omega) (fun u hu => good u (by omega))
          rw [show ((w.toNat : Nat) : Int) = w by omega] at this
          exact this
        have e6 : σ (119 + 6 * w) 6 = mt_cn mt_one T sz w := by omega
        rw [e6] at r2
        exact ⟨w0, by omega, fun _ => s_follow a.2.2.1 a.2.2.2.1 e0 e1 mv C0 (by omega) e6 (fun j j0 j1 => by rw [show 119 + 6 * w + 5 = 124 + 6 * w by omega]; exact r2 j j0 j1) (fun _ => k1 σ iσ fσ)⟩
      · obtain ⟨⟨g, s1, s2, s3⟩, -⟩ := IC_w iσ v0 (by omega)
        have iR := iσ.2.2.2.2.2.1
        have gv := good v.toNat (by omega)
        have ec := mt_cn_e (h := h) (sg := mt_one) (T := T) (sz := sz) (w := v.toNat) (by omega) gv
        have ee := mt_ex_e (h := h) (T := T) (sz := sz) (w := v.toNat) (by omega) gv
        rw [show ((v.toNat : Nat) : Int) = v by omega] at ec ee
        refine s_writeOut (cx := mt_cn mt_one T sz) (ex := mt_ex T sz) a.2.2.2.1 v0 (by omega) g s1 s2 (fun u u0 u1 => ?_) (fun σ6 f6 q1 q0 => nx σ6 (by omega) ?_ (fun j hj => by rw [f6.1 j (by omega) (by omega) (by omega) (by omega)]; exact fσ j hj) (fun u u0 u1 => ?_))
        · obtain ⟨r1, r2⟩ := (iR u u0 (by omega)).2 (by omega) (fl u u0 u1)
          refine ⟨(IC_cv iσ u0 (by omega)).1, r1, fun j j0 j1 => ?_⟩
          rw [show 119 + 6 * u + 5 = 124 + 6 * u by omega]; exact r2 j j0 j1
        · rw [← ec, ← ee] at q0
          obtain ⟨a', b', c', d', e', r', s'⟩ := iσ
          have fld : ∀ u b, 0 ≤ u → u < 16 → b ≠ 6 → b ≠ 7 → σ6 (119 + 6 * u) b = σ (119 + 6 * u) b := fun u b u0 u1 h6 h7 => by
            by_cases q : u = v
            · rw [q]; exact f6.2 b h6 h7
            · rw [f6.1 _ (by omega) (by omega) (by omega) (by omega)]
          have f6' := f6.1
          refine ⟨ic_A_k (f6' 1 (by omega) (by omega) (by omega) (by omega)) a', ic_B_k (f6' 2 (by omega) (by omega) (by omega) (by omega)) (f6' 3 (by omega) (by omega) (by omega) (by omega)) b', ic_C_k (f6' 4 (by omega) (by omega) (by omega) (by omega)) (f6' 5 (by omega) (by omega) (by omega) (by omega)) c', ic_D_k (fun u u0 u1 => fld u 3 u0 u1 (by omega) (by omega)) d', fun u u0 u1 => ⟨ic_T_k (fld u 1 u0 (by omega) (by omega) (by omega)) (fld u 2 u0 (by omega) (by omega) (by omega)) (f6' _ (by omega) (by omega) (by omega) (by omega)) (e' u u0 u1).1, mt_wv_eq (f6' _ (by omega) (by omega) (by omega) (by omega)) (f6' _ (by omega) (by omega) (by omega) (by omega)) (f6' _ (by omega) (by omega) (by omega) (by omega)) (e' u u0 u1).2⟩, fun u u0 u1 => ?_, ic_S_k (fun j h1 h2 => f6' j (by omega) (by omega) (by omega) (by omega)) s'⟩
          by_cases q : u = v
          · rw [q]
            have C := (IC_cv i v0 (by omega)).1
            refine ⟨by rw [q0.1]; omega, fun _ _ => ⟨q0.1, fun j j0 j1 => ?_⟩⟩
            rw [show 124 + 6 * v = 119 + 6 * v + 5 by omega]; exact q0.2 j j0 j1
          · have o : ∀ j, j = 119 + 6 * u ∨ j = 124 + 6 * u → σ6 j = σ j := fun j hj => f6' j (by omega) (by omega) (by omega) (by omega)
            unfold ic_w1
            rw [o _ (Or.inl rfl), o _ (Or.inr rfl)]; exact r' u u0 u1
        · by_cases q : u = v
          · rw [q, q1]; omega
          · rw [f6.1 _ (by omega) (by omega) (by omega) (by omega)]; exact fl u u0 (by omega)
  exact L 20 0 σ0 (by omega) (by omega) (by omega) i (fun _ _ => rfl) (fun u u0 u1 => absurd u1 (by omega))
