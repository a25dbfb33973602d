/-! alike pairs and loops give alike powers; a weave all of whose powers leave one loop -/
theorem so_rs {h : Int} {a b a' b' : Int → Int} (h2 : 0 ≤ h) (h5 : h ≤ 5) (ha : mt_M h a) (hb : mt_M h b) (ea : mt_eq h a a') (eb : mt_eq h b b') (e20 : a 20 = a' 20) (f20 : b 20 = b' 20) : ∀ n : Nat, (n : Int) ≤ h → (mt_rs h a b n).1 = (mt_rs h a' b' n).1 ∧ (mt_rs h a b n).2.1 = (mt_rs h a' b' n).2.1 := by
  intro n
  induction n with
  | zero =>
    intro _
    unfold mt_rs
    rw [mt_mm_c0 ea eb, e20, f20]
    exact ⟨rfl, rfl⟩
  | succ n ih =>
    intro hn
    obtain ⟨i1, i2⟩ := ih (by omega)
    have hC := mt_rs_C h2 h5 ha hb n (by omega)
    unfold mt_rs
    by_cases q : mb_t (mt_rs h a b n).1 n = 0
    · have er : (mt_rg h a b n).1 = (mt_rg h a' b' n).1 := by
        obtain ⟨o, t, e1, e2, o0, o1, t0, t1, n1, n2, e3, e4, z1, z2, c⟩ := mt_rg_C h5 ha hb hC (by omega) (by omega) q
        have b1 := eb n (by omega) (by omega)
        have a1 := ea (b n + h) (by omega) (by omega)
        have e17 : (mt_r1 h a b 0 0 n).2.2 = t := by show a (b n + h) - h = t; rw [e1]; omega
        have e17' : (mt_r1 h a' b' 0 0 n).2.2 = t := by show a' (b' n + h) - h = t; rw [← b1, ← a1, e1]; omega
        have d1 : (mt_r1 h a b 0 0 n).1 = (mt_r1 h a' b' 0 0 n).1 := by unfold mt_r1; rw [← b1, a1]
        unfold mt_rg
        rw [e17, e17']
        rcases c with c | ⟨nc, o2, f1, f2, p0, p1, k1, k2, k3, f3, f4, yy⟩
        · rw [if_pos c, if_pos c]; exact d1
        · rw [if_neg nc, if_neg nc, d1]
          have b2 := eb t (by omega) (by omega)
          have a2 := ea (b t + h) (by omega) (by omega)
          show b_or _ (b_or (b_shl 1 (b t)) (b_shl 1 (a (b t + h) - h))) = b_or _ (b_or (b_shl 1 (b' t)) (b_shl 1 (a' (b' t + h) - h)))
          rw [← b2, a2]
      rw [if_pos q, if_pos (by rw [← i1]; exact q)]
      exact ⟨by show b_or _ _ = b_or _ _; rw [i1, er], by show w64 _ = w64 _; rw [i2]⟩
    · rw [if_neg q, if_neg (by rw [← i1]; exact q)]
      exact ⟨i1, i2⟩
theorem so_both {h : Int} {a b a' b' : Int → Int} (h2 : 0 ≤ h) (h5 : h ≤ 5) (ha : mt_M h a) (hb : mt_M h b) (ea : so_e h a a') (eb : so_e h b b') : so_e h (mt_both h a b) (mt_both h a' b') := by
  refine ⟨fun e e0 e1 => ?_, ?_⟩
  · rw [mt_eq_both h5 e e0 e1, mt_eq_both h5 e e0 e1]
    unfold mt_prod
    rw [mt_eq_out ea.1 eb.1 _ _ (mt_s_all e0 e1).1]
  · have e : ∀ a b, mt_both h a b 20 = (mt_rs h a b h.toNat).2.1 := fun a b => by unfold mt_both; rw [if_neg (by omega), if_neg (by omega), if_pos rfl]
    rw [e, e]
    exact (so_rs h2 h5 ha hb ea.1 eb.1 ea.2 eb.2 h.toNat (by omega)).2
theorem so_pp {h : Int} {v v' : Int → Int} (h2 : 0 ≤ h) (h5 : h ≤ 5) (hv : mt_M h v) (e : so_e h v v') : ∀ n : Nat, so_e h (mt_pp h v n) (mt_pp h v' n) := by
  intro n
  induction n with
  | zero => exact e
  | succ n ih => exact so_both h2 h5 (mt_pp_M h5 hv n) hv ih e
theorem so_plo {h : Int} {v v' cl : Int → Int} (h2 : 0 ≤ h) (h5 : h ≤ 5) (hv : mt_M h v) (hc : mt_M h cl) (e : so_e h v v') (n : Nat) : mt_plo h v cl n = mt_plo h v' cl n := by
  have p := so_pp h2 h5 hv e n
  unfold mt_plo
  rw [p.2, mt_cl_c h2 (mt_pp_M h5 hv n) hc p.1]
/-- every power leaves one loop -/
def mn_one (h : Int) (v cl : Int → Int) : Prop := ∀ i : Nat, i ≤ 1900 → mt_plo h v cl i = 1
theorem mn_one_c {h : Int} {v v' cl : Int → Int} (h2 : 0 ≤ h) (h5 : h ≤ 5) (hv : mt_M h v) (hc : mt_M h cl) (e : so_e h v v') : mn_one h v cl ↔ mn_one h v' cl := by
  unfold mn_one
  constructor
  · intro o i hi; rw [← so_plo h2 h5 hv hc e i]; exact o i hi
  · intro o i hi; rw [so_plo h2 h5 hv hc e i]; exact o i hi
/-- the first n + 1 say it for all -/
theorem mn_one_n {h : Int} {v cl : Int → Int} {a n : Nat} (h0 : 0 ≤ h) (h5 : h ≤ 5) (hv : mt_M h v) (ov : mt_ok h v) (hc : mt_M h cl) (v0 : 0 ≤ v 20) (v1 : v 20 ≤ 5000000000000) (an : a < n) (n9 : n ≤ 945) (e : mt_eq h (mt_pp h v a) (mt_pp h v n)) (o : ∀ i : Nat, i ≤ n → mt_plo h v cl i = 1) : mn_one h v cl := by
  have K : ∀ b i : Nat, i ≤ b → i ≤ 1900 → mt_plo h v cl i = 1 := by
    intro b
    induction b with
    | zero => intro i hi _; exact o i (by omega)
    | succ b ih =>
      intro i hi h9
      by_cases z : i ≤ n
      · exact o i z
      · obtain ⟨k, hk⟩ : ∃ k, i = n + k := ⟨i - n, by omega⟩
        have g := (mt_plo_g (cl := cl) h0 h5 hv ov hc v0 v1 (Nat.le_of_lt an) e k (by omega)).1
        rw [hk, g, ih (a + k) (by omega) (by omega), o n (Nat.le_refl n), o a (by omega)]
        rfl
  exact fun i hi => K i i (Nat.le_refl i) hi
/-- the class: leavesOne -/
theorem s_alwaysOne_x {Q : Int → ml_St → Prop} {h : Int} {v cl : Int → Int} {a n : Nat} {σ : ml_St} (p : mq_q h v cl a n σ) (k1 : (∀ i : Nat, i ≤ n → mt_plo h v cl i = 1) → Q 1 σ) (k0 : ¬ (∀ i : Nat, i ≤ n → mt_plo h v cl i = 1) → Q 0 σ) : f_X6_alwaysLeaveOne σ Q := by
  obtain ⟨p1, p2, p3, p4, p5, p6, -⟩ := p
  have L : ∀ (N : Nat) (x y : Int), 1 ≤ y → y ≤ n + 2 → n + 2 - y < N → ((x = 1 ∧ ∀ i : Nat, (i : Int) + 1 < y → mt_plo h v cl i = 1) ∨ (x = 0 ∧ ¬ ∀ i : Nat, i ≤ n → mt_plo h v cl i = 1)) → f_X6_alwaysLeaveOne_u4 Q (f_X6_alwaysLeaveOne_u44 Q) N σ x y := by
    intro N
    induction N with
    | zero => intro x y y0 y1 hN; omega
    | succ N ih =>
      intro x y y0 y1 hN hx
      unfold f_X6_alwaysLeaveOne_u4
      rw [p3, p4]
      have nx : ∀ s, y ≤ n + 1 → ((s = 1 ∧ ∀ i : Nat, (i : Int) + 1 < y + 1 → mt_plo h v cl i = 1) ∨ (s = 0 ∧ ¬ ∀ i : Nat, i ≤ n → mt_plo h v cl i = 1)) → f_X6_alwaysLeaveOne_u37 Q (f_X6_alwaysLeaveOne_u4 Q (f_X6_alwaysLeaveOne_u44 Q) N) σ y s := fun s hy hs => by
        unfold f_X6_alwaysLeaveOne_u37
        refine ⟨mt_I (by omega) (by omega), fun y1 e => ?_⟩
        subst e
        exact ih s (y + 1) (by omega) (by omega) (by omega) hs
      refine fun _ _ => ⟨mt_I (by omega) (by omega), fun c => ?_, fun c => ⟨fun x0 => ?_, fun x0 => ⟨by omega, by omega, ?_⟩⟩⟩
      · unfold f_X6_alwaysLeaveOne_u44
        rcases hx with ⟨e, o⟩ | ⟨e, o⟩
        · rw [e]; exact k1 (fun i hi => o i (by omega))
        · rw [e]; exact k0 o
      · unfold f_X6_alwaysLeaveOne_u36
        exact nx 0 (by omega) (Or.inr ⟨rfl, (hx.resolve_left (fun z => by omega)).2⟩)
      · have o := (hx.resolve_right (fun z => x0 z.1)).2
        have g := p6 (y - 1).toNat (by omega)
        rw [show (((y - 1).toNat : Nat) : Int) + 1 = y by omega] at g
        rw [g]
        refine fun _ => ⟨fun z => ?_, fun z => nx 1 (by omega) (Or.inl ⟨rfl, fun i hi => ?_⟩)⟩
        · unfold f_X6_alwaysLeaveOne_u36
          exact nx 0 (by omega) (Or.inr ⟨rfl, fun c => z (c (y - 1).toNat (by omega))⟩)
        · by_cases w : i = (y - 1).toNat
          · rw [w]; exact z
          · exact o i (by omega)
  unfold f_X6_alwaysLeaveOne f_X6_alwaysLeaveOne_u0
  exact ⟨n + 3, L _ 1 1 (by omega) (by omega) (by omega) (Or.inl ⟨rfl, fun i hi => by omega⟩)⟩
theorem s_leavesOne_x {Q : Int → ml_St → Prop} {p h : Int} {σ0 : ml_St} {v cl : Int → Int} (h2 : 2 ≤ h) (h5 : h ≤ 5) (pd : 55 ≤ p) (hv : mt_M h v) (ov : mt_ok h v) (v0 : 0 ≤ v 20) (v1 : v 20 ≤ 1000) (wv : mt_wv h σ0 p v) (hc : mt_M h cl) (ec : mt_eq h (σ0 5) cl) (k : ∀ r σ, (r = 1 ∧ mn_one h v cl ∨ r = 0 ∧ ¬ mn_one h v cl) → mt_f46 σ0 σ → Q r σ) : f_X5_leavesOne σ0 p h Q := by
  have e0 : mt_plo h v cl 0 = w64 (v 20 + mt_cl h v cl) := rfl
  unfold f_X5_leavesOne f_X5_leavesOne_u0
  rw [wv.2.1]
  refine fun _ => s_loopsBy h2 h5 hv hc (mt_eq_wa wv).1 ec (fun _ => ⟨fun _ => s_study_x h2 h5 (Or.inr pd) (by omega) hv wv hc ec (mq_64_p h v h2 h5 hv) (fun σ a n f q => s_alwaysOne_x q (fun o _ => ?_) (fun o _ => ?_)), fun z => k 0 σ0 (Or.inr ⟨rfl, fun o => z (by rw [← e0]; exact o 0 (by omega))⟩) (fun _ _ => rfl)⟩)
  · exact k 1 σ (Or.inl ⟨rfl, mn_one_n (by omega) h5 hv ov hc v0 (by omega) q.1 (by have := q.2.1; omega) q.2.2.2.2.2.2.1 o⟩) f
  · exact k 0 σ (Or.inr ⟨rfl, fun c => o (fun i hi => c i (by have := q.2.1; omega))⟩) f
