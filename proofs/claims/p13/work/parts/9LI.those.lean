/-! those and first: both sides answer alike -/
def mr_U (h : Int) (v cl : Int → Int) (a n : Nat) (x : Int) : Int := if x ≤ a then mt_plo h v cl (x - 1).toNat else mt_plo h v cl (a + ((x - 1 - a) % (n - a)).toNat) + ((x - 1 - a) / (n - a)) * (mt_plo h v cl n - mt_plo h v cl a)
theorem mr_U_s {h : Int} {v cl : Int → Int} {a n : Nat} (H : mq_h h v cl) (an : a < n) (e : mt_eq h (mt_pp h v a) (mt_pp h v n)) {x : Nat} (hx : x ≤ 2000) : mr_U h v cl a n ((x : Int) + 1) = mt_plo h v cl x := by
  have l := mq_lv_s H an e hx
  obtain ⟨f1, f2, f3⟩ := mt_plo_r (n := x) (by have := H.1; omega) H.2.1 H.2.2.1 H.2.2.2.2.1 H.2.2.2.2.2.1 H.2.2.2.2.2.2 hx
  unfold mq_lv mt_top at l
  unfold mr_U
  omega
theorem mr_8 {S y : Int} (S1 : 1 ≤ S) (S8 : S ≤ 8) : (y + S) % S = y % S ∧ (y + S) / S = y / S + 1 := by
  rcases mr_S8 S1 S8 with q | q | q | q | q | q | q | q <;> subst q <;> omega
theorem mr_ch2 {f : Int → Int} {B s g x : Int} (s0 : 0 ≤ s) (H : ∀ x, B ≤ x → f (x + s) = f x + g) (hx : B ≤ x) : ∀ t : Nat, f (x + s * t) = f x + g * t := by
  intro t
  induction t with
  | zero => simp
  | succ t ih =>
    have m := Int.mul_nonneg s0 (show (0 : Int) ≤ t by omega)
    have e := H (x + s * t) (by omega)
    rw [show ((t + 1 : Nat) : Int) = (t : Int) + 1 by omega, Int.mul_add, Int.mul_add, Int.mul_one, Int.mul_one, ← Int.add_assoc, e, ih]
    omega
theorem mr_H1 {h : Int} {v cl : Int → Int} {a n : Nat} (H : mq_h h v cl) (an : a < n) (n8 : n ≤ 8) (e : mt_eq h (mt_pp h v a) (mt_pp h v n)) : mr_h (mr_U h v cl a n) (a + 1) (n - a) (mt_plo h v cl n - mt_plo h v cl a) := by
  have g := (mt_plo_g (by have := H.1; omega) H.2.1 H.2.2.1 H.2.2.2.1 H.2.2.2.2.1 H.2.2.2.2.2.1 H.2.2.2.2.2.2 (Nat.le_of_lt an) e 0 (by omega)).2
  refine ⟨by omega, by omega, by omega, by omega, fun x x0 => ?_⟩
  obtain ⟨m1, m2⟩ := mr_8 (S := (n : Int) - a) (y := x - 1 - a) (by omega) (by omega)
  unfold mr_U
  rw [if_neg (by omega), if_neg (by omega), show x + ((n : Int) - a) - 1 - a = x - 1 - a + (n - a) by omega, m1, m2, Int.add_mul, Int.one_mul]
  omega
theorem mr_H2 {h : Int} {v cl : Int → Int} {a n s m : Nat} {g : Int} (H : mq_h h v cl) (an : a < n) (n8 : n ≤ 8) (e : mt_eq h (mt_pp h v a) (mt_pp h v n)) (r : mr h v cl a n s m g) : mr_h (mr_U h v cl a n) (m + 1) s g := by
  obtain ⟨r1, r2, r3, r4, r5, r6, r7, r8⟩ := r
  have h1 := mr_H1 H an n8 e
  have C : ∀ x, (a : Int) + 1 ≤ x → mr_U h v cl a n (x + s) = mr_U h v cl a n x + g := by
    intro x x0
    have md := Int.mul_ediv_add_emod (x - 1 - a) ((n : Int) - a)
    have m0 := Int.emod_nonneg (x - 1 - a) (show (n : Int) - a ≠ 0 by omega)
    have m1 := Int.emod_lt_of_pos (x - 1 - a) (show 0 < (n : Int) - a by omega)
    have d0 := Int.ediv_nonneg (show 0 ≤ x - 1 - a by omega) (show 0 ≤ (n : Int) - a by omega)
    generalize (x - 1 - (a : Int)) % (n - a) = r at *
    generalize (x - 1 - (a : Int)) / (n - a) = t at *
    have c1 := mr_ch h1 (x := (a : Int) + 1 + r) (by omega) t.toNat
    have c2 := mr_ch h1 (x := (a : Int) + 1 + r + s) (by omega) t.toNat
    rw [show ((t.toNat : Nat) : Int) = t by omega] at c1 c2
    have u1 := mr_U_s (cl := cl) H an e (x := a + r.toNat) (by omega)
    have u2 := mr_U_s (cl := cl) H an e (x := a + r.toNat + s) (by omega)
    have d := r3 r.toNat (by omega)
    rw [show ((a + r.toNat : Nat) : Int) + 1 = a + 1 + r by omega] at u1
    rw [show ((a + r.toNat + s : Nat) : Int) + 1 = a + 1 + r + s by omega] at u2
    rw [show x + s = (a : Int) + 1 + r + s + (n - a) * t by omega, c2, u2]
    rw [show x = (a : Int) + 1 + r + (n - a) * t by omega, c1, u1]
    omega
  refine ⟨by omega, by omega, by omega, ?_, fun x x0 => ?_⟩
  · have c1 := mr_ch2 (s := s) (B := (a : Int) + 1) (x := (a : Int) + 1) (by omega) C (Int.le_refl _) (n - a)
    have c2 := mr_ch h1 (x := (a : Int) + 1) (Int.le_refl _) s
    rw [show ((n - a : Nat) : Int) = (n : Int) - a by omega, Int.mul_comm (s : Int)] at c1
    have g0 := Int.mul_nonneg h1.2.2.2.1 (show (0 : Int) ≤ s by omega)
    rcases Int.lt_or_le g 0 with z | z
    · have := Int.mul_neg_of_neg_of_pos z (show 0 < (n : Int) - a by omega)
      omega
    · exact z
  · rcases Int.lt_or_le (a : Int) x with z | z
    · exact C x (by omega)
    · have u1 := mr_U_s (cl := cl) H an e (x := (x - 1).toNat) (by omega)
      have u2 := mr_U_s (cl := cl) H an e (x := (x - 1).toNat + s) (by omega)
      have d := r7 (x - 1).toNat (by omega) (by omega)
      rw [show (((x - 1).toNat : Nat) : Int) + 1 = x by omega] at u1
      rw [show (((x - 1).toNat + s : Nat) : Int) + 1 = x + s by omega] at u2
      omega
/-- the least of a chain -/
theorem mr_ff_l {f : Int → Int} {B S γ k n : Int} (H : mr_h f B S γ) (hn : B ≤ n) : (mr_ff f S γ k n = -1 ∧ ∀ x, n ≤ x → (x - n) % S = 0 → f x ≠ k) ∨ (n ≤ mr_ff f S γ k n ∧ (mr_ff f S γ k n - n) % S = 0 ∧ f (mr_ff f S γ k n) = k ∧ ∀ x, n ≤ x → (x - n) % S = 0 → f x = k → mr_ff f S γ k n ≤ x) := by
  rcases mr_ff_p (k := k) H hn with p | ⟨p1, p2, p3, p4, p5⟩
  · exact Or.inl p
  · refine Or.inr ⟨p1, p2, p3, fun x x0 m e => ?_⟩
    by_cases g : 0 < γ
    · rw [p4 g x x0 m e]; exact Int.le_refl _
    · rw [(p5 (by omega)).1]; exact x0
/-- the class -/
theorem s_firstFrom_x {Q : Int → ml_St → Prop} {h : Int} {v cl : Int → Int} {a n s m y : Nat} {g K : Int} {σ : ml_St} (H : mq_h h v cl) (p : mq_q h v cl a n σ) (n8 : n ≤ 8) (hr : mr h v cl a n s m g) (e7 : σ 46 7 = s) (e8 : σ 46 8 = g) (y0 : m ≤ y) (y9 : y ≤ 1000) (K0 : 0 ≤ K) (K1 : K ≤ 1000000000000000000) (k : Q (mr_ff (mr_U h v cl a n) s g K ((y : Int) + 1)) σ) : f_X6_firstFrom σ ((y : Int) + 1) K Q := by
  obtain ⟨h2, h5, hv, ov, hc, v0, v1⟩ := id H
  have R := mt_plo_r (n := y) (by omega) h5 hv hc v0 v1 (by omega)
  have l := mq_lv_s (cl := cl) H p.1 p.2.2.2.2.2.2.1 (x := y) (by omega)
  have u := mr_U_s (cl := cl) H p.1 p.2.2.2.2.2.2.1 (x := y) (by omega)
  have hh := mr_H2 H p.1 n8 p.2.2.2.2.2.2.1 hr
  have s8 := hh.2.2.1
  have g0 := hh.2.2.2.1
  unfold mr_ff at k
  rw [u] at k
  unfold f_X6_firstFrom f_X6_firstFrom_u0
  unfold f_X6_firstFrom_u48
  refine s_loopsOf_x (by omega) h5 hv ov hc v0 v1 p (by omega) (by omega) (fun _ y3 e3 => ?_)
  rw [l, w64_id ⟨by omega, by omega⟩] at e3
  rw [← e3] at k
  rw [e7, e8]
  refine ⟨fun z => ⟨fun z1 => ?_, fun z1 _ => ⟨fun z2 => ?_, fun z2 _ => ⟨by omega, fun z3 _ => ⟨by omega, fun _ => ?_⟩, fun z3 => ?_⟩⟩⟩, fun z => ?_⟩
  · rw [if_neg z, if_pos (Or.inl z1)] at k; exact k
  · rw [if_neg z, if_pos (Or.inr (Or.inl z2))] at k; exact k
  · rw [Int.tmod_eq_emod_of_nonneg (by omega)] at z3
    rw [if_neg z, if_neg (by omega)] at k
    rw [Int.tdiv_eq_ediv_of_nonneg (by omega)]
    have q0 := Int.ediv_nonneg (show 0 ≤ y3 by omega) (show 0 ≤ g by omega)
    have q1 := Int.ediv_le_self g (show 0 ≤ y3 by omega)
    have q2 := Int.mul_le_mul_of_nonneg_left (show (s : Int) ≤ 8 by omega) q0
    have q3 := Int.mul_nonneg q0 (show (0 : Int) ≤ s by omega)
    generalize y3 / g = t at *
    rw [w64_id (x := t) ⟨by omega, by omega⟩, w64_id (x := t * s) ⟨by omega, by omega⟩, w64_id ⟨by omega, by omega⟩]
    exact k
  · rw [Int.tmod_eq_emod_of_nonneg (by omega)] at z3
    rw [if_neg z, if_pos (Or.inr (Or.inr z3))] at k; exact k
  · rw [if_pos z] at k; exact k
theorem s_howManyFrom_x {Q : Int → ml_St → Prop} {h : Int} {v cl : Int → Int} {a n s m i : Nat} {g K fr to : Int} {σ : ml_St} (H : mq_h h v cl) (p : mq_q h v cl a n σ) (n8 : n ≤ 8) (hr : mr h v cl a n s m g) (e7 : σ 46 7 = s) (e8 : σ 46 8 = g) (i1 : i < s) (K0 : 0 ≤ K) (K1 : K ≤ 1000000000000000000) (f1 : 1 ≤ fr) (ft : fr ≤ to) (t1 : to ≤ 1000000000000000000) (k : Q (mr_sm (mr_b (mr_U h v cl a n) (m + 1) s K i) fr (to - fr + 1).toNat) σ) : f_X6_howManyFrom σ ((m : Int) + 1 + i) K fr to Q := by
  have hh := mr_H2 H p.1 n8 p.2.2.2.2.2.2.1 hr
  have s8 := hh.2.2.1
  have r6 := hr.2.2.2.2.2.1
  have an := p.1
  have P := mr_ff_p (k := K) hh (show (m : Int) + 1 ≤ (m : Int) + 1 + i by omega)
  rw [mr_hm (i := (i : Int)) hh (by omega) (by omega) ft f1] at k
  unfold f_X6_howManyFrom f_X6_howManyFrom_u0
  unfold f_X6_howManyFrom_u25 f_X6_howManyFrom_u49 f_X6_howManyFrom_u91 f_X6_howManyFrom_u118
  have go := s_firstFrom_x (Q := fun r1 σ1 => ∀ _ : I64 r1, (r1 = (-1) → Q 0 σ1) ∧ (r1 ≠ (-1) → (r1 ≤ to → ∀ _ : I64 (σ1 46 8), (((σ1 46 8) : Int) ≤ 0 → (r1 < fr → ∀ _ : I32 (σ1 46 7), ∀ _ : I32 (σ1 46 7), ((σ1 46 7) : Int) ≠ 0 ∧ ∀ _ : I32 (σ1 46 7), f_X6_howManyFrom_u91 Q σ1 to (w64 (r1 + (w64 ((w64 (Int.tdiv (w64 ((w64 ((w64 (fr - r1)) + (σ1 46 7))) - 1)) (σ1 46 7))) * (σ1 46 7)))))) ∧ (¬ (r1 < fr) → f_X6_howManyFrom_u91 Q σ1 to r1)) ∧ (¬ (((σ1 46 8) : Int) ≤ 0) → (r1 < fr → Q 0 σ1) ∧ (¬ (r1 < fr) → Q 1 σ1))) ∧ (¬ (r1 ≤ to) → Q 0 σ1))) H p n8 hr e7 e8 (y := m + i) (by omega) (by omega) K0 K1
  rw [show ((m + i : Nat) : Int) + 1 = (m : Int) + 1 + i by omega] at go
  refine go (fun _ => ?_)
  generalize mr_ff (mr_U h v cl a n) s g K ((m : Int) + 1 + i) = r at *
  rw [e7, e8]
  have u91 : ∀ low, fr ≤ low → low = mr_low r fr s → r ≠ -1 → r ≤ to → g ≤ 0 → f_X6_howManyFrom_u91 Q σ to low := by
    intro low l0 el r1 r2 g0
    rw [if_neg (by omega), if_neg (by omega), ← el] at k
    unfold f_X6_howManyFrom_u91
    unfold f_X6_howManyFrom_u118
    rw [e7]
    refine ⟨fun z _ => ⟨by omega, ?_⟩, fun z => ?_⟩
    · rw [if_neg (by omega)] at k
      have d0 := Int.ediv_nonneg (show 0 ≤ to - low by omega) (show (0 : Int) ≤ s by omega)
      have d1 := Int.ediv_le_self (s : Int) (show 0 ≤ to - low by omega)
      rw [w64_id (x := to - low) ⟨by omega, by omega⟩, Int.tdiv_eq_ediv_of_nonneg (by omega), w64_id (x := (to - low) / s) ⟨by omega, by omega⟩, w64_id ⟨by omega, by omega⟩]
      exact k
    · rw [if_pos (by omega)] at k; exact k
  refine ⟨fun z => ?_, fun z => ⟨fun z1 _ => ⟨fun z2 => ⟨fun z3 _ _ => ⟨by omega, fun _ => ?_⟩, fun z3 => ?_⟩, fun z2 => ⟨fun z3 => ?_, fun z3 => ?_⟩⟩, fun z1 => ?_⟩⟩
  · rw [if_pos (Or.inl z)] at k; exact k
  · obtain ⟨l1, l2, l3, l4⟩ := mr_low_p (n := r) (fr := fr) (S := s) (by omega) s8
    have r0 : 1 ≤ r := by omega
    refine u91 _ ?_ ?_ z z1 z2
    · refine Int.le_trans l2 (Int.le_of_eq ?_)
      unfold mr_low
      rw [if_neg (by omega)]
      have d0 := Int.ediv_nonneg (show 0 ≤ fr - r + s - 1 by omega) (show (0 : Int) ≤ s by omega)
      have d1 := Int.ediv_le_self (s : Int) (show 0 ≤ fr - r + s - 1 by omega)
      have d2 := Int.ediv_mul_le (fr - r + s - 1) (show (s : Int) ≠ 0 by omega)
      have d3 := Int.mul_nonneg d0 (show (0 : Int) ≤ s by omega)
      rw [w64_id (x := fr - r) ⟨by omega, by omega⟩, w64_id (x := fr - r + s) ⟨by omega, by omega⟩, w64_id (x := fr - r + s - 1) ⟨by omega, by omega⟩, Int.tdiv_eq_ediv_of_nonneg (by omega), w64_id (x := (fr - r + s - 1) / s) ⟨by omega, by omega⟩, w64_id (x := (fr - r + s - 1) / s * s) ⟨by omega, by omega⟩, w64_id ⟨by omega, by omega⟩]
    · unfold mr_low
      rw [if_neg (by omega)]
      have d0 := Int.ediv_nonneg (show 0 ≤ fr - r + s - 1 by omega) (show (0 : Int) ≤ s by omega)
      have d1 := Int.ediv_le_self (s : Int) (show 0 ≤ fr - r + s - 1 by omega)
      have d2 := Int.ediv_mul_le (fr - r + s - 1) (show (s : Int) ≠ 0 by omega)
      have d3 := Int.mul_nonneg d0 (show (0 : Int) ≤ s by omega)
      rw [w64_id (x := fr - r) ⟨by omega, by omega⟩, w64_id (x := fr - r + s) ⟨by omega, by omega⟩, w64_id (x := fr - r + s - 1) ⟨by omega, by omega⟩, Int.tdiv_eq_ediv_of_nonneg (by omega), w64_id (x := (fr - r + s - 1) / s) ⟨by omega, by omega⟩, w64_id (x := (fr - r + s - 1) / s * s) ⟨by omega, by omega⟩, w64_id ⟨by omega, by omega⟩]
  · exact u91 r (by omega) (by unfold mr_low; rw [if_pos (by omega)]) z z1 z2
  · rw [if_neg (by omega), if_pos (by omega), if_neg (by omega)] at k; exact k
  · rw [if_neg (by omega), if_pos (by omega), if_pos (by omega)] at k; exact k
  · rw [if_pos (by omega)] at k; exact k
theorem s_howMany_x {Q : Int → ml_St → Prop} {h : Int} {v cl : Int → Int} {a n s m : Nat} {g K fr to : Int} {σ : ml_St} (H : mq_h h v cl) (p : mq_q h v cl a n σ) (n8 : n ≤ 8) (hr : mr h v cl a n s m g) (e7 : σ 46 7 = s) (e8 : σ 46 8 = g) (e9 : σ 46 9 = m + 1) (K0 : 0 ≤ K) (K1 : K ≤ 1000000000000000000) (f1 : 1 ≤ fr) (ft : fr ≤ to) (t1 : to ≤ 1000000000000000000) (k : Q (mr_sm (mr_t (mr_U h v cl a n) K) fr (to - fr + 1).toNat) σ) : f_X6_howMany σ K fr to Q := by
  obtain ⟨h2, h5, hv, ov, hc, v0, v1⟩ := id H
  have hh := mr_H2 H p.1 n8 p.2.2.2.2.2.2.1 hr
  have s8 := hh.2.2.1
  have r6 := hr.2.2.2.2.2.1
  have r1 := hr.1
  have an := p.1
  have E : (((to - fr + 1).toNat : Nat) : Int) = to - fr + 1 := by omega
  have L2 : ∀ (N : Nat) (i : Nat), i ≤ s → s - i < N → f_X6_howMany_u59 Q (f_X6_howMany_u94 Q) N σ K fr to (mr_sm (mr_c (mr_U h v cl a n) (m + 1) s K i) fr (to - fr + 1).toNat) i := by
    intro N
    induction N with
    | zero => intro i i1 hN; omega
    | succ N ih =>
      intro i i1 hN
      unfold f_X6_howMany_u59
      unfold f_X6_howMany_u94
      rw [e7, e9]
      refine fun _ => ⟨fun c => ?_, fun c _ => ⟨mt_i (by omega) (by omega), s_howManyFrom_x H p n8 hr e7 e8 (by omega) K0 K1 f1 ft t1 (fun _ y7 e => ⟨mt_i (by omega) (by omega), fun y8 e8 => ?_⟩)⟩⟩
      · have : i = s := by omega
        subst this
        rw [mr_sm_c _ (fun x _ _ => mr_c_S (mr_U h v cl a n) (m + 1) i K x (by omega))]
        exact k
      · have ea := mr_sm_a (b := mr_c (mr_U h v cl a n) (m + 1) s K (i + 1)) (c := mr_c (mr_U h v cl a n) (m + 1) s K i) (d := mr_b (mr_U h v cl a n) (m + 1) s K i) (lo := fr) (to - fr + 1).toNat (fun x _ _ => mr_c_s _ _ _ _ _ _ (by omega) (by omega))
        have q := mr_sm_r (b := mr_c (mr_U h v cl a n) (m + 1) s K (i + 1)) (lo := fr) (to - fr + 1).toNat (fun x _ _ => by unfold mr_c; split <;> omega)
        rw [← ea, w64_id ⟨by omega, by omega⟩] at e
        rw [e, e8, show (i : Int) + 1 = ((i + 1 : Nat) : Int) by omega]
        exact ih (i + 1) (by omega) (by omega)
  have L1 : ∀ (N : Nat) (j : Nat), j ≤ m → m - j < N → f_X6_howMany_u6 Q (f_X6_howMany_u56 Q) N σ K fr to (mr_sm (mr_d (mr_U h v cl a n) K (j + 1)) fr (to - fr + 1).toNat) (j + 1) := by
    intro N
    induction N with
    | zero => intro j j1 hN; omega
    | succ N ih =>
      intro j j1 hN
      unfold f_X6_howMany_u6
      rw [e9]
      have nx : ∀ y, y = mr_sm (mr_d (mr_U h v cl a n) K (j + 1 + 1)) fr (to - fr + 1).toNat → j < m → f_X6_howMany_u50 Q (f_X6_howMany_u6 Q (f_X6_howMany_u56 Q) N) σ K fr to y ((j : Int) + 1) := by
        intro y e hn
        unfold f_X6_howMany_u50
        refine ⟨mt_i (by omega) (by omega), fun y1 e1 => ?_⟩
        rw [e1, e, show (j : Int) + 1 = ((j + 1 : Nat) : Int) by omega]
        exact ih (j + 1) (by omega) (by omega)
      refine fun _ => ⟨fun c => ⟨100, ?_⟩, fun c => ?_⟩
      · have : j = m := by omega
        subst this
        rw [mr_sm_c _ (fun x _ _ => (mr_c_0 (mr_U h v cl a n) (j + 1) s K x (by omega)).symm)]
        exact L2 100 0 (by omega) (by omega)
      · have l := mq_lv_s (cl := cl) H p.1 p.2.2.2.2.2.2.1 (x := j) (by omega)
        have u := mr_U_s (cl := cl) H p.1 p.2.2.2.2.2.2.1 (x := j) (by omega)
        have ea := mr_sm_a (b := mr_d (mr_U h v cl a n) K (j + 1 + 1)) (c := mr_d (mr_U h v cl a n) K (j + 1)) (d := fun x => if x = (j : Int) + 1 ∧ mr_U h v cl a n ((j : Int) + 1) = K then 1 else 0) (lo := fr) (to - fr + 1).toNat (fun x _ _ => mr_d_s _ _ _ _)
        have q := mr_sm_r (b := mr_d (mr_U h v cl a n) K (j + 1 + 1)) (lo := fr) (to - fr + 1).toNat (fun x _ _ => by unfold mr_d; split <;> omega)
        refine s_loopsOf_x (by omega) h5 hv ov hc v0 v1 p (by omega) (by omega) (fun _ => ?_)
        rw [l, ← u]
        refine ⟨fun z => nx _ ?_ (by omega), fun z => ⟨fun z2 => nx _ ?_ (by omega), fun z2 => ⟨fun z3 => nx _ ?_ (by omega), fun z3 y8 e => nx _ ?_ (by omega)⟩⟩⟩
        · rw [ea, mr_sm_0 (b := fun x => if x = (j : Int) + 1 ∧ mr_U h v cl a n ((j : Int) + 1) = K then 1 else 0) _ (fun x _ _ => if_neg (fun y => z y.2))]; omega
        · rw [ea, mr_sm_0 (b := fun x => if x = (j : Int) + 1 ∧ mr_U h v cl a n ((j : Int) + 1) = K then 1 else 0) _ (fun x _ _ => if_neg (fun y => by omega))]; omega
        · rw [ea, mr_sm_0 (b := fun x => if x = (j : Int) + 1 ∧ mr_U h v cl a n ((j : Int) + 1) = K then 1 else 0) _ (fun x _ _ => if_neg (fun y => by omega))]; omega
        · have one := mr_sm_1 (b := fun x => if x = (j : Int) + 1 ∧ mr_U h v cl a n ((j : Int) + 1) = K then 1 else 0) (lo := fr) (x0 := (j : Int) + 1) (to - fr + 1).toNat (fun x _ _ => by
            by_cases q : x = (j : Int) + 1
            · rw [if_pos ⟨q, z⟩, if_pos q]
            · rw [if_neg (fun y => q y.1), if_neg q])
          rw [if_pos (by omega)] at one
          rw [ea, one] at q
          rw [e, ea, one]
          exact w64_id ⟨by omega, by omega⟩
  unfold f_X6_howMany f_X6_howMany_u0
  have := L1 100 0 (by omega) (by omega)
  rw [mr_sm_0 (b := mr_d (mr_U h v cl a n) K ((0 : Nat) + 1)) _ (fun x x0 _ => by unfold mr_d; exact if_neg (fun y => by omega))] at this
  exact ⟨100, this⟩
