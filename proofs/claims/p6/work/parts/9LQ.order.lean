/-! products of signs: from the left or from the right, they are one -/
/-- pairs and loops alike -/
def so_e (h : Int) (f g : Int → Int) : Prop := mt_eq h f g ∧ f 20 = g 20
theorem so_t {h : Int} {f g k : Int → Int} (a : so_e h f g) (b : so_e h g k) : so_e h f k := ⟨fun e e0 e1 => by rw [a.1 e e0 e1, b.1 e e0 e1], by rw [a.2, b.2]⟩
theorem so_s {h : Int} {f g : Int → Int} (a : so_e h f g) : so_e h g f := ⟨fun e e0 e1 => (a.1 e e0 e1).symm, a.2.symm⟩
theorem sg_f_c {u x y e n : Int} {f g : Int → Int} (h : ∀ e, 0 ≤ e → e < n → f e = g e) (x0 : 0 ≤ x ∧ x < n) (y0 : 0 ≤ y ∧ y < n) (e0 : 0 ≤ e ∧ e < n) : sg_f u x y f e = sg_f u x y g e := by
  have t : 0 ≤ sg_t x y e ∧ sg_t x y e < n := by unfold sg_t; (repeat' split) <;> omega
  unfold sg_f
  rw [h _ t.1 t.2, h _ e0.1 e0.2, h _ x0.1 x0.2, h _ y0.1 y0.2]
theorem sg_k_c {u x y n : Int} {f g : Int → Int} (h : ∀ e, 0 ≤ e → e < n → f e = g e) (x0 : 0 ≤ x ∧ x < n) : sg_k u x y f = sg_k u x y g := by
  unfold sg_k; rw [h _ x0.1 x0.2]
theorem sg_k_r {u x y : Int} {f : Int → Int} : 0 ≤ sg_k u x y f ∧ sg_k u x y f ≤ 1 := by unfold sg_k; split <;> omega
/-- a matching with few loops -/
def so_M (h N : Int) (a : Int → Int) : Prop := mt_M h a ∧ 0 ≤ a 20 ∧ a 20 ≤ N
theorem so_R {h r u N : Int} {a : Int → Int} (h2 : 2 ≤ h) (h5 : h ≤ 5) (ha : so_M h N a) (N1 : N ≤ 1000) (r0 : 0 ≤ r) (r1 : r + 2 ≤ h) : (∀ e, 0 ≤ e → e < 2 * h → mt_both h a (mt_sgn h r u) e = sg_f u (h + r) (h + r + 1) a e) ∧ mt_both h a (mt_sgn h r u) 20 = a 20 + sg_k u (h + r) (h + r + 1) a ∧ so_M h (N + 1) (mt_both h a (mt_sgn h r u)) := by
  have b := sg_r20 (u := u) h2 h5 ha.1 r0 r1 ha.2.1 (by have := ha.2.2; omega)
  have k := sg_k_r (u := u) (x := h + r) (y := h + r + 1) (f := a)
  have l := ha.2
  exact ⟨fun e e0 e1 => by rw [mt_eq_both h5 e e0 e1, sg_r h2 h5 ha.1 r0 r1 e0 e1], b, mt_both_M h5 ha.1 (mt_sgn_M h5 r0 r1), by omega, by omega⟩
theorem so_L {h r u N : Int} {a : Int → Int} (h2 : 2 ≤ h) (h5 : h ≤ 5) (ha : so_M h N a) (N1 : N ≤ 1000) (r0 : 0 ≤ r) (r1 : r + 2 ≤ h) : (∀ e, 0 ≤ e → e < 2 * h → mt_both h (mt_sgn h r u) a e = sg_f u r (r + 1) a e) ∧ mt_both h (mt_sgn h r u) a 20 = a 20 + sg_k u r (r + 1) a ∧ so_M h (N + 1) (mt_both h (mt_sgn h r u) a) := by
  have b := sg_l20 (u := u) h2 h5 ha.1 r0 r1 ha.2.1 (by have := ha.2.2; omega)
  have k := sg_k_r (u := u) (x := r) (y := r + 1) (f := a)
  have l := ha.2
  exact ⟨fun e e0 e1 => by rw [mt_eq_both h5 e e0 e1, sg_l h2 h5 ha.1 r0 r1 e0 e1], b, mt_both_M h5 (mt_sgn_M h5 r0 r1) ha.1, by omega, by omega⟩
theorem so_Rc {h r u N : Int} {a a' : Int → Int} (h2 : 2 ≤ h) (h5 : h ≤ 5) (ha : so_M h N a) (ha' : so_M h N a') (N1 : N ≤ 1000) (r0 : 0 ≤ r) (r1 : r + 2 ≤ h) (q : so_e h a a') : so_e h (mt_both h a (mt_sgn h r u)) (mt_both h a' (mt_sgn h r u)) := by
  obtain ⟨x1, x2, -⟩ := so_R (u := u) h2 h5 ha N1 r0 r1
  obtain ⟨y1, y2, -⟩ := so_R (u := u) h2 h5 ha' N1 r0 r1
  refine ⟨fun e e0 e1 => ?_, ?_⟩
  · rw [x1 e e0 e1, y1 e e0 e1, sg_f_c (n := 2 * h) q.1 ⟨by omega, by omega⟩ ⟨by omega, by omega⟩ ⟨e0, e1⟩]
  · rw [x2, y2, q.2, sg_k_c (n := 2 * h) q.1 ⟨by omega, by omega⟩]
theorem so_Lc {h r u N : Int} {a a' : Int → Int} (h2 : 2 ≤ h) (h5 : h ≤ 5) (ha : so_M h N a) (ha' : so_M h N a') (N1 : N ≤ 1000) (r0 : 0 ≤ r) (r1 : r + 2 ≤ h) (q : so_e h a a') : so_e h (mt_both h (mt_sgn h r u) a) (mt_both h (mt_sgn h r u) a') := by
  obtain ⟨x1, x2, -⟩ := so_L (u := u) h2 h5 ha N1 r0 r1
  obtain ⟨y1, y2, -⟩ := so_L (u := u) h2 h5 ha' N1 r0 r1
  refine ⟨fun e e0 e1 => ?_, ?_⟩
  · rw [x1 e e0 e1, y1 e e0 e1, sg_f_c (n := 2 * h) q.1 ⟨by omega, by omega⟩ ⟨by omega, by omega⟩ ⟨e0, e1⟩]
  · rw [x2, y2, q.2, sg_k_c (n := 2 * h) q.1 ⟨by omega, by omega⟩]
/-- one sign before, one behind -/
theorem so_a {h r u r' u' N : Int} {a : Int → Int} (h2 : 2 ≤ h) (h5 : h ≤ 5) (ha : so_M h N a) (N1 : N ≤ 900) (r0 : 0 ≤ r) (r1 : r + 2 ≤ h) (s0 : 0 ≤ r') (s1 : r' + 2 ≤ h) : so_e h (mt_both h (mt_sgn h r u) (mt_both h a (mt_sgn h r' u'))) (mt_both h (mt_both h (mt_sgn h r u) a) (mt_sgn h r' u')) := by
  obtain ⟨x1, x2, x3⟩ := so_R (u := u') h2 h5 ha (by omega) s0 s1
  obtain ⟨y1, y2, y3⟩ := so_L (u := u) h2 h5 ha (by omega) r0 r1
  obtain ⟨z1, z2, -⟩ := so_L (u := u) h2 h5 x3 (by omega) r0 r1
  obtain ⟨w1, w2, -⟩ := so_R (u := u') h2 h5 y3 (by omega) s0 s1
  have hf : ∀ e, 0 ≤ e → e < 2 * h → a (a e) = e ∧ a e ≠ e := fun e e0 e1 => (ha.1 e e0 e1).2.2
  have d : sg_d r (r + 1) (h + r') (h + r' + 1) := ⟨by omega, by omega, by omega, by omega, by omega, by omega⟩
  refine ⟨fun e e0 e1 => ?_, ?_⟩
  · rw [z1 e e0 e1, w1 e e0 e1, sg_f_c (n := 2 * h) x1 ⟨by omega, by omega⟩ ⟨by omega, by omega⟩ ⟨e0, e1⟩, sg_f_c (f := mt_both h (mt_sgn h r u) a) (n := 2 * h) y1 ⟨by omega, by omega⟩ ⟨by omega, by omega⟩ ⟨e0, e1⟩]
    exact sg_c d hf ⟨by omega, by omega⟩ ⟨by omega, by omega⟩ ⟨by omega, by omega⟩ ⟨by omega, by omega⟩ ⟨e0, e1⟩
  · rw [z2, w2, x2, y2, sg_k_c (n := 2 * h) x1 ⟨by omega, by omega⟩, sg_k_c (f := mt_both h (mt_sgn h r u) a) (n := 2 * h) y1 ⟨by omega, by omega⟩]
    have := sg_kc (u := u) (v := u') d hf ⟨by omega, by omega⟩ ⟨by omega, by omega⟩ ⟨by omega, by omega⟩ ⟨by omega, by omega⟩
    omega
/-- n signs from o on, from the left -/
def so_p (h : Int) (r u : Nat → Int) (o : Nat) : Nat → Int → Int
  | 0 => mt_str h
  | n + 1 => mt_both h (so_p h r u o n) (mt_sgn h (r (o + n)) (u (o + n)))
/-- the last k of s signs, from the right -/
def so_q (h : Int) (r u : Nat → Int) (s : Nat) : Nat → Int → Int
  | 0 => mt_str h
  | k + 1 => mt_both h (mt_sgn h (r (s - 1 - k)) (u (s - 1 - k))) (so_q h r u s k)
theorem so_str {h : Int} (h5 : h ≤ 5) : so_M h 0 (mt_str h) := by
  have : mt_str h 20 = 0 := by unfold mt_str; rw [if_neg (by omega)]
  exact ⟨mt_str_M h5, by omega, by omega⟩
theorem so_p_M {h : Int} {r u : Nat → Int} (h2 : 2 ≤ h) (h5 : h ≤ 5) (o : Nat) : ∀ n : Nat, n ≤ 100 → (∀ j, o ≤ j → j < o + n → 0 ≤ r j ∧ r j + 2 ≤ h) → so_M h n (so_p h r u o n) := by
  intro n
  induction n with
  | zero => intro _ _; exact so_str h5
  | succ n ih =>
    intro hn hr
    have i := ih (by omega) (fun j a b => hr j a (by omega))
    obtain ⟨r0, r1⟩ := hr (o + n) (by omega) (by omega)
    have := (so_R (u := u (o + n)) h2 h5 i (by omega) r0 r1).2.2
    rw [show ((n + 1 : Nat) : Int) = (n : Int) + 1 by omega]
    exact this
theorem so_q_M {h : Int} {r u : Nat → Int} (h2 : 2 ≤ h) (h5 : h ≤ 5) (s : Nat) : ∀ k : Nat, k ≤ 100 → k ≤ s → (∀ j, j < s → 0 ≤ r j ∧ r j + 2 ≤ h) → so_M h k (so_q h r u s k) := by
  intro k
  induction k with
  | zero => intro _ _ _; exact so_str h5
  | succ k ih =>
    intro hk ks hr
    have i := ih (by omega) (by omega) hr
    obtain ⟨r0, r1⟩ := hr (s - 1 - k) (by omega)
    have := (so_L (u := u (s - 1 - k)) h2 h5 i (by omega) r0 r1).2.2
    rw [show ((k + 1 : Nat) : Int) = (k : Int) + 1 by omega]
    exact this
/-- a sign with straight rails, on either side -/
theorem so_1 {h r u : Int} (h2 : 2 ≤ h) (h5 : h ≤ 5) (r0 : 0 ≤ r) (r1 : r + 2 ≤ h) : so_e h (mt_both h (mt_sgn h r u) (mt_str h)) (mt_both h (mt_str h) (mt_sgn h r u)) := by
  have a := mt_id_r h2 h5 (mt_sgn_M (u := u) h5 r0 r1) (mt_sgn_ok (i := r) (u := u) h5)
  have b := mt_id h2 h5 (mt_sgn_M (u := u) h5 r0 r1) (mt_sgn_ok (i := r) (u := u) h5)
  exact ⟨fun e e0 e1 => by rw [(a.1 e e0 e1).1, (b.1 e e0 e1).1], by rw [a.2.1, b.2.1]⟩
theorem so_pl {h : Int} {r u : Nat → Int} (h2 : 2 ≤ h) (h5 : h ≤ 5) (o : Nat) : ∀ n : Nat, n ≤ 50 → (∀ j, o ≤ j → j < o + 1 + n → 0 ≤ r j ∧ r j + 2 ≤ h) → so_e h (mt_both h (mt_sgn h (r o) (u o)) (so_p h r u (o + 1) n)) (so_p h r u o (n + 1)) := by
  intro n
  induction n with
  | zero =>
    intro _ hr
    obtain ⟨r0, r1⟩ := hr o (by omega) (by omega)
    exact so_1 h2 h5 r0 r1
  | succ n ih =>
    intro hn hr
    obtain ⟨r0, r1⟩ := hr o (by omega) (by omega)
    obtain ⟨s0, s1⟩ := hr (o + 1 + n) (by omega) (by omega)
    have i := ih (by omega) (fun j a b => hr j a (by omega))
    have m1 := so_p_M (u := u) h2 h5 (o + 1) n (by omega) (fun j a b => hr j (by omega) (by omega))
    have m2 := so_p_M (u := u) h2 h5 o (n + 1) (by omega) (fun j a b => hr j (by omega) (by omega))
    have a := so_a (u := u o) (u' := u (o + 1 + n)) h2 h5 m1 (by omega) r0 r1 s0 s1
    have m3 := (so_L (u := u o) h2 h5 m1 (by omega) r0 r1).2.2
    rw [show (n : Int) + 1 = ((n + 1 : Nat) : Int) by omega] at m3
    have b := so_Rc (u := u (o + 1 + n)) h2 h5 m3 m2 (by omega) s0 s1 i
    refine so_t a ?_
    have e : so_p h r u o (n + 1 + 1) = mt_both h (so_p h r u o (n + 1)) (mt_sgn h (r (o + (n + 1))) (u (o + (n + 1)))) := rfl
    rw [e, show o + (n + 1) = o + 1 + n by omega]
    exact b
theorem so_qp {h : Int} {r u : Nat → Int} (h2 : 2 ≤ h) (h5 : h ≤ 5) (s : Nat) (hs : s ≤ 50) (hr : ∀ j, j < s → 0 ≤ r j ∧ r j + 2 ≤ h) : ∀ k : Nat, k ≤ s → so_e h (so_q h r u s k) (so_p h r u (s - k) k) := by
  intro k
  induction k with
  | zero => intro _; exact ⟨fun _ _ _ => rfl, rfl⟩
  | succ k ih =>
    intro hk
    obtain ⟨r0, r1⟩ := hr (s - 1 - k) (by omega)
    have m1 := so_q_M (u := u) h2 h5 s k (by omega) (by omega) hr
    have m2 := so_p_M (u := u) h2 h5 (s - k) k (by omega) (fun j a b => hr j (by omega))
    have c := so_Lc (u := u (s - 1 - k)) h2 h5 m1 m2 (by omega) r0 r1 (ih (by omega))
    have p := so_pl (u := u) (r := r) h2 h5 (s - 1 - k) k (by omega) (fun j a b => hr j (by omega))
    rw [show s - 1 - k + 1 = s - k by omega] at p
    rw [show s - (k + 1) = s - 1 - k by omega]
    exact so_t c p
