/-! a sign behind or before a matching: what becomes of its pairs -/
def sg_t (x y e : Int) : Int := if e = x then y else if e = y then x else e
def sg_f (u x y : Int) (f : Int → Int) (e : Int) : Int := if u = 0 then sg_t x y (f (sg_t x y e)) else if e = x then y else if e = y then x else if f e = x then f y else if f e = y then f x else f e
theorem sg_S0 {h r q : Int} (h5 : h ≤ 5) (r0 : 0 ≤ r) (r1 : r + 2 ≤ h) (q0 : 0 ≤ q) (q1 : q < h) : mt_sgn h r 0 q = h + sg_t r (r + 1) q ∧ mt_sgn h r 0 (h + q) = sg_t r (r + 1) q := by
  unfold mt_sgn mt_str sg_t
  rw [if_pos (show q < 10 by omega), if_pos (show h + q < 10 by omega), if_pos (show q < 10 by omega), if_pos (show h + q < 10 by omega), if_pos rfl, if_pos rfl]
  constructor <;> (repeat' split) <;> omega
theorem sg_S1 {h r u q : Int} (h5 : h ≤ 5) (hu : u ≠ 0) (r0 : 0 ≤ r) (r1 : r + 2 ≤ h) (q0 : 0 ≤ q) (q1 : q < h) : (q = r → mt_sgn h r u q = r + 1 ∧ mt_sgn h r u (h + q) = h + r + 1) ∧ (q = r + 1 → mt_sgn h r u q = r ∧ mt_sgn h r u (h + q) = h + r) ∧ (q ≠ r → q ≠ r + 1 → mt_sgn h r u q = h + q ∧ mt_sgn h r u (h + q) = q) := by
  unfold mt_sgn mt_str
  rw [if_pos (show q < 10 by omega), if_pos (show h + q < 10 by omega), if_pos (show q < 10 by omega), if_pos (show h + q < 10 by omega), if_neg hu, if_neg hu]
  refine ⟨fun z => ?_, fun z => ?_, fun z z2 => ?_⟩ <;> constructor <;> (repeat' split) <;> omega
theorem mo_A1 {h e : Int} {a b : Int → Int} {n : Nat} (e1 : e < 2 * h) (l : a e < h) : mt_out h a b (n + 1) e = a e := by
  have p : mt_P h a b e = a e := if_pos e1
  unfold mt_out; rw [p, if_neg (by omega)]
theorem mo_A2 {h e : Int} {a b : Int → Int} {n : Nat} (h0 : 0 ≤ h) (e1 : e < 2 * h) (l : h ≤ a e) (l2 : a e < 2 * h) : mt_out h a b (n + 1) e = mt_out h a b n (2 * h + (a e - h)) := by
  have p : mt_P h a b e = a e := if_pos e1
  have j : mt_J h (a e) = 2 * h + (a e - h) := by unfold mt_J; rw [if_pos l2]; omega
  have : mt_out h a b (n + 1) e = if h ≤ mt_P h a b e ∧ mt_P h a b e < 3 * h then mt_out h a b n (mt_J h (mt_P h a b e)) else mt_P h a b e := rfl
  rw [this, p, if_pos (by omega), j]
theorem mo_B1 {h q : Int} {a b : Int → Int} {n : Nat} (q0 : 0 ≤ q) (l : h ≤ b q) : mt_out h a b (n + 1) (2 * h + q) = 2 * h + b q := by
  have p : mt_P h a b (2 * h + q) = 2 * h + b q := by unfold mt_P; rw [if_neg (by omega), show 2 * h + q - 2 * h = q by omega]
  unfold mt_out; rw [p, if_neg (by omega)]
theorem mo_B2 {h q : Int} {a b : Int → Int} {n : Nat} (h0 : 0 ≤ h) (q0 : 0 ≤ q) (l0 : 0 ≤ b q) (l : b q < h) : mt_out h a b (n + 1) (2 * h + q) = mt_out h a b n (h + b q) := by
  have p : mt_P h a b (2 * h + q) = 2 * h + b q := by unfold mt_P; rw [if_neg (by omega), show 2 * h + q - 2 * h = q by omega]
  have j : mt_J h (2 * h + b q) = h + b q := by unfold mt_J; rw [if_neg (by omega)]; omega
  have : mt_out h a b (n + 1) (2 * h + q) = if h ≤ mt_P h a b (2 * h + q) ∧ mt_P h a b (2 * h + q) < 3 * h then mt_out h a b n (mt_J h (mt_P h a b (2 * h + q))) else mt_P h a b (2 * h + q) := rfl
  rw [this, p, if_pos (by omega), j]
theorem mo_e0 {h x : Int} (l : x < h) : mt_e h x = x := if_pos l
theorem mo_e1 {h x : Int} (l : ¬ x < h) : mt_e h x = x - 2 * h := if_neg l
theorem sg_t_h {x y e : Int} (a : e ≠ x) (b : e ≠ y) : sg_t x y e = e := by unfold sg_t; rw [if_neg a, if_neg b]
theorem sg_t_p {h r e : Int} : sg_t (h + r) (h + r + 1) (h + e) = h + sg_t r (r + 1) e := by unfold sg_t; (repeat' split) <;> omega
theorem sg_t_r {h r q : Int} (r0 : 0 ≤ r) (r1 : r + 2 ≤ h) (q0 : 0 ≤ q) (q1 : q < h) : 0 ≤ sg_t r (r + 1) q ∧ sg_t r (r + 1) q < h := by unfold sg_t; constructor <;> (repeat' split) <;> omega
theorem sg_r {h r u e : Int} {a : Int → Int} (h2 : 2 ≤ h) (h5 : h ≤ 5) (ha : mt_M h a) (r0 : 0 ≤ r) (r1 : r + 2 ≤ h) (e0 : 0 ≤ e) (e1 : e < 2 * h) : mt_prod h a (mt_sgn h r u) e = sg_f u (h + r) (h + r + 1) a e := by
  unfold mt_prod sg_f
  by_cases hu : u = 0
  · subst hu
    rw [if_pos rfl]
    have RA : ∀ (n : Nat) (e : Int), 0 ≤ e → e < 2 * h → mt_e h (mt_out h a (mt_sgn h r 0) (n + 2) e) = sg_t (h + r) (h + r + 1) (a e) := fun n e e0 e1 => by
      obtain ⟨m1, m2, m3, m4⟩ := ha e e0 e1
      by_cases z : a e < h
      · rw [mo_A1 e1 z, mo_e0 z, sg_t_h (by omega) (by omega)]
      · obtain ⟨s1, s2⟩ := sg_S0 (q := a e - h) h5 r0 r1 (by omega) (by omega)
        have t := sg_t_r (q := a e - h) r0 r1 (by omega) (by omega)
        rw [mo_A2 (by omega) e1 (by omega) m2, mo_B1 (by omega) (by rw [s1]; omega), s1, mo_e1 (by omega)]
        have p := sg_t_p (h := h) (r := r) (e := a e - h)
        rw [show h + (a e - h) = a e by omega] at p
        rw [p]; omega
    by_cases z : e < h
    · rw [show mt_s h e = e from if_pos z, RA 8 e e0 e1, sg_t_h (e := e) (by omega) (by omega)]
    · obtain ⟨s1, s2⟩ := sg_S0 (q := e - h) h5 r0 r1 (by omega) (by omega)
      have t := sg_t_r (q := e - h) r0 r1 (by omega) (by omega)
      have p := sg_t_p (h := h) (r := r) (e := e - h)
      rw [show h + (e - h) = e by omega] at p s2
      rw [show mt_s h e = 2 * h + e from if_neg z, mo_B2 (by omega) e0 (by omega) (by omega), s2, RA 7 _ (by omega) (by omega), p]
  · rw [if_neg hu]
    have RA1 : ∀ (n : Nat) (e : Int), 0 ≤ e → e < 2 * h → a e ≠ h + r → a e ≠ h + r + 1 → mt_e h (mt_out h a (mt_sgn h r u) (n + 2) e) = a e := fun n e e0 e1 n1 n2 => by
      obtain ⟨m1, m2, m3, m4⟩ := ha e e0 e1
      by_cases z : a e < h
      · rw [mo_A1 e1 z, mo_e0 z]
      · obtain ⟨s1, s2⟩ := (sg_S1 (q := a e - h) h5 hu r0 r1 (by omega) (by omega)).2.2 (by omega) (by omega)
        rw [mo_A2 (by omega) e1 (by omega) m2, mo_B1 (by omega) (by rw [s1]; omega), s1, mo_e1 (by omega)]
        omega
    obtain ⟨x1, x2, x3, x4⟩ := ha (h + r) (by omega) (by omega)
    obtain ⟨y1, y2, y3, y4⟩ := ha (h + r + 1) (by omega) (by omega)
    obtain ⟨t1, t2⟩ := (sg_S1 (q := r) h5 hu r0 r1 (by omega) (by omega)).1 rfl
    obtain ⟨t3, t4⟩ := (sg_S1 (q := r + 1) h5 hu r0 r1 (by omega) (by omega)).2.1 rfl
    have RA : ∀ (n : Nat) (e : Int), 0 ≤ e → e < 2 * h → e ≠ h + r → e ≠ h + r + 1 → mt_e h (mt_out h a (mt_sgn h r u) (n + 4) e) = if a e = h + r then a (h + r + 1) else if a e = h + r + 1 then a (h + r) else a e := fun n e e0 e1 n1 n2 => by
      obtain ⟨m1, m2, m3, m4⟩ := ha e e0 e1
      by_cases z : a e = h + r
      · rw [if_pos z, mo_A2 (by omega) e1 (by omega) m2, z, show h + r - h = r by omega, mo_B2 (by omega) r0 (by omega) (by omega), t1, show h + (r + 1) = h + r + 1 by omega]
        refine RA1 n _ (by omega) (by omega) (fun c => ?_) y4
        rw [z] at m3
        rw [c, m3] at y3
        exact n2 y3
      · rw [if_neg z]
        by_cases z2 : a e = h + r + 1
        · rw [if_pos z2, mo_A2 (by omega) e1 (by omega) m2, z2, show h + r + 1 - h = r + 1 by omega, mo_B2 (by omega) (by omega) (by omega) (by omega), t3]
          refine RA1 n _ (by omega) (by omega) x4 (fun c => ?_)
          rw [z2] at m3
          rw [c, m3] at x3
          exact n1 x3
        · rw [if_neg z2]; exact RA1 (n + 2) e e0 e1 z z2
    by_cases z : e < h
    · rw [if_neg (c := e = h + r) (by omega), if_neg (c := e = h + r + 1) (by omega), show mt_s h e = e from if_pos z]
      exact RA 6 e e0 e1 (by omega) (by omega)
    · rw [show mt_s h e = 2 * h + e from if_neg z]
      by_cases zx : e = h + r
      · rw [if_pos zx, zx, mo_B1 (by omega) (by omega), t2, mo_e1 (by omega)]; omega
      · rw [if_neg zx]
        by_cases zy : e = h + r + 1
        · rw [if_pos zy, zy]
          rw [show h + (r + 1) = h + r + 1 by omega] at t4
          rw [mo_B1 (by omega) (by omega), t4, mo_e1 (by omega)]; omega
        · obtain ⟨s1, s2⟩ := (sg_S1 (q := e - h) h5 hu r0 r1 (by omega) (by omega)).2.2 (by omega) (by omega)
          rw [show h + (e - h) = e by omega] at s2
          rw [if_neg zy, mo_B2 (by omega) e0 (by omega) (by omega), s2, show h + (e - h) = e by omega]
          exact RA 5 e e0 e1 zx zy
theorem sg_l {h r u e : Int} {a : Int → Int} (h2 : 2 ≤ h) (h5 : h ≤ 5) (ha : mt_M h a) (r0 : 0 ≤ r) (r1 : r + 2 ≤ h) (e0 : 0 ≤ e) (e1 : e < 2 * h) : mt_prod h (mt_sgn h r u) a e = sg_f u r (r + 1) a e := by
  unfold mt_prod sg_f
  by_cases hu : u = 0
  · subst hu
    rw [if_pos rfl]
    have LB : ∀ (n : Nat) (q : Int), 0 ≤ q → q < 2 * h → mt_e h (mt_out h (mt_sgn h r 0) a (n + 2) (2 * h + q)) = sg_t r (r + 1) (a q) := fun n q q0 q1 => by
      obtain ⟨m1, m2, m3, m4⟩ := ha q q0 q1
      by_cases z : a q < h
      · obtain ⟨s1, s2⟩ := sg_S0 (q := a q) h5 r0 r1 (by omega) (by omega)
        have t := sg_t_r (q := a q) r0 r1 (by omega) (by omega)
        rw [mo_B2 (by omega) q0 m1 z, mo_A1 (by omega) (by rw [s2]; omega), s2, mo_e0 t.2]
      · rw [mo_B1 q0 (by omega), mo_e1 (by omega), sg_t_h (by omega) (by omega)]; omega
    by_cases z : e < h
    · obtain ⟨s1, s2⟩ := sg_S0 (q := e) h5 r0 r1 (by omega) (by omega)
      have t := sg_t_r (q := e) r0 r1 (by omega) (by omega)
      rw [show mt_s h e = e from if_pos z, mo_A2 (by omega) e1 (by omega) (by omega), s1, show h + sg_t r (r + 1) e - h = sg_t r (r + 1) e by omega]
      exact LB 7 _ (by omega) (by omega)
    · rw [show mt_s h e = 2 * h + e from if_neg z, LB 8 e e0 e1, sg_t_h (e := e) (by omega) (by omega)]
  · rw [if_neg hu]
    have LB1 : ∀ (n : Nat) (q : Int), 0 ≤ q → q < 2 * h → a q ≠ r → a q ≠ r + 1 → mt_e h (mt_out h (mt_sgn h r u) a (n + 2) (2 * h + q)) = a q := fun n q q0 q1 n1 n2 => by
      obtain ⟨m1, m2, m3, m4⟩ := ha q q0 q1
      by_cases z : a q < h
      · obtain ⟨s1, s2⟩ := (sg_S1 (q := a q) h5 hu r0 r1 (by omega) (by omega)).2.2 n1 n2
        rw [mo_B2 (by omega) q0 m1 z, mo_A1 (by omega) (by omega), s2, mo_e0 z]
      · rw [mo_B1 q0 (by omega), mo_e1 (by omega)]; omega
    obtain ⟨x1, x2, x3, x4⟩ := ha r (by omega) (by omega)
    obtain ⟨y1, y2, y3, y4⟩ := ha (r + 1) (by omega) (by omega)
    obtain ⟨t1, t2⟩ := (sg_S1 (q := r) h5 hu r0 r1 (by omega) (by omega)).1 rfl
    obtain ⟨t3, t4⟩ := (sg_S1 (q := r + 1) h5 hu r0 r1 (by omega) (by omega)).2.1 rfl
    have LB : ∀ (n : Nat) (q : Int), 0 ≤ q → q < 2 * h → q ≠ r → q ≠ r + 1 → mt_e h (mt_out h (mt_sgn h r u) a (n + 4) (2 * h + q)) = if a q = r then a (r + 1) else if a q = r + 1 then a r else a q := fun n q q0 q1 n1 n2 => by
      obtain ⟨m1, m2, m3, m4⟩ := ha q q0 q1
      by_cases z : a q = r
      · rw [if_pos z, mo_B2 (by omega) q0 m1 (by omega), z, mo_A2 (by omega) (by omega) (by omega) (by omega), t2, show h + r + 1 - h = r + 1 by omega]
        refine LB1 n _ (by omega) (by omega) (fun c => ?_) y4
        rw [z] at m3
        rw [c, m3] at y3
        exact n2 y3
      · rw [if_neg z]
        by_cases z2 : a q = r + 1
        · rw [if_pos z2, mo_B2 (by omega) q0 m1 (by omega), z2, mo_A2 (by omega) (by omega) (by omega) (by omega), t4, show h + r - h = r by omega]
          refine LB1 n _ (by omega) (by omega) x4 (fun c => ?_)
          rw [z2] at m3
          rw [c, m3] at x3
          exact n1 x3
        · rw [if_neg z2]; exact LB1 (n + 2) q q0 q1 z z2
    by_cases z : e < h
    · rw [show mt_s h e = e from if_pos z]
      by_cases zx : e = r
      · rw [if_pos zx, zx, mo_A1 (by omega) (by omega), t1, mo_e0 (by omega)]
      · rw [if_neg zx]
        by_cases zy : e = r + 1
        · rw [if_pos zy, zy, mo_A1 (by omega) (by omega), t3, mo_e0 (by omega)]
        · obtain ⟨s1, s2⟩ := (sg_S1 (q := e) h5 hu r0 r1 (by omega) (by omega)).2.2 zx zy
          rw [if_neg zy, mo_A2 (by omega) e1 (by omega) (by omega), s1, show h + e - h = e by omega]
          exact LB 5 e e0 e1 zx zy
    · rw [if_neg (c := e = r) (by omega), if_neg (c := e = r + 1) (by omega), show mt_s h e = 2 * h + e from if_neg z]
      exact LB 6 e e0 e1 (by omega) (by omega)
/-! signs at different ends: their order doesn't matter -/
def sg_k (u x y : Int) (f : Int → Int) : Int := if u ≠ 0 ∧ f x = y then 1 else 0
def sg_d (x y z w : Int) : Prop := x ≠ y ∧ z ≠ w ∧ x ≠ z ∧ x ≠ w ∧ y ≠ z ∧ y ≠ w
theorem sg_tt {x y z w e : Int} (d : sg_d x y z w) : sg_t x y (sg_t z w e) = sg_t z w (sg_t x y e) := by
  obtain ⟨d1, d2, d3, d4, d5, d6⟩ := d
  unfold sg_t
  repeat' split
  all_goals omega
theorem sg_ti {x y e : Int} (d : x ≠ y) : sg_t x y (sg_t x y e) = e := by
  unfold sg_t
  repeat' split
  all_goals omega
theorem sg_c01 {v x y z w e : Int} {f : Int → Int} (hv : v ≠ 0) (d : sg_d x y z w) : sg_f 0 x y (sg_f v z w f) e = sg_f v z w (sg_f 0 x y f) e := by
  have d' := d
  obtain ⟨d1, d2, d3, d4, d5, d6⟩ := d
  have g : ∀ e, sg_f 0 x y f e = sg_t x y (f (sg_t x y e)) := fun e => if_pos rfl
  have g2 : sg_f 0 x y (sg_f v z w f) e = sg_t x y (sg_f v z w f (sg_t x y e)) := if_pos rfl
  have k : ∀ F : Int → Int, ∀ e, sg_f v z w F e = if e = z then w else if e = w then z else if F e = z then F w else if F e = w then F z else F e := fun F e => if_neg hv
  have tz : sg_t x y z = z := sg_t_h (by omega) (by omega)
  have tw : sg_t x y w = w := sg_t_h (by omega) (by omega)
  have inj : ∀ p q, sg_t x y p = q ↔ p = sg_t x y q := fun p q => ⟨fun h => by rw [← h, sg_ti d1], fun h => by rw [h, sg_ti d1]⟩
  rw [g2, k, k, g e, g z, g w, tz, tw]
  have i1 : sg_t x y e = z ↔ e = z := by rw [inj, tz]
  have i2 : sg_t x y e = w ↔ e = w := by rw [inj, tw]
  have i3 : sg_t x y (f (sg_t x y e)) = z ↔ f (sg_t x y e) = z := by rw [inj, tz]
  have i4 : sg_t x y (f (sg_t x y e)) = w ↔ f (sg_t x y e) = w := by rw [inj, tw]
  simp only [i1, i2, i3, i4]
  by_cases z1 : e = z
  · rw [if_pos z1, if_pos z1, tw]
  · rw [if_neg z1, if_neg z1]
    by_cases z2 : e = w
    · rw [if_pos z2, if_pos z2, tz]
    · rw [if_neg z2, if_neg z2]
      by_cases z3 : f (sg_t x y e) = z
      · rw [if_pos z3, if_pos z3]
      · rw [if_neg z3, if_neg z3]
        by_cases z4 : f (sg_t x y e) = w
        · rw [if_pos z4, if_pos z4]
        · rw [if_neg z4, if_neg z4]
theorem sg_d_s {x y z w : Int} (d : sg_d x y z w) : sg_d z w x y := by
  obtain ⟨d1, d2, d3, d4, d5, d6⟩ := d
  exact ⟨d2, d1, fun e => d3 e.symm, fun e => d5 e.symm, fun e => d4 e.symm, fun e => d6 e.symm⟩
theorem sg_fx {u x y : Int} {f : Int → Int} (hu : u ≠ 0) : sg_f u x y f x = y := by unfold sg_f; rw [if_neg hu, if_pos rfl]
theorem sg_fy {u x y : Int} {f : Int → Int} (hu : u ≠ 0) (d : x ≠ y) : sg_f u x y f y = x := by unfold sg_f; rw [if_neg hu, if_neg (fun c => d c.symm), if_pos rfl]
theorem sg_fn {u x y p : Int} {f : Int → Int} (hu : u ≠ 0) (a : p ≠ x) (b : p ≠ y) : sg_f u x y f p = if f p = x then f y else if f p = y then f x else f p := by unfold sg_f; rw [if_neg hu, if_neg a, if_neg b]
/-- f leads from e to x -/
theorem sg_c11a {u v x y z w e n : Int} {f : Int → Int} (hu : u ≠ 0) (hv : v ≠ 0) (d : sg_d x y z w) (hf : ∀ e, 0 ≤ e → e < n → f (f e) = e ∧ f e ≠ e) (x0 : 0 ≤ x ∧ x < n) (y0 : 0 ≤ y ∧ y < n) (z0 : 0 ≤ z ∧ z < n) (w0 : 0 ≤ w ∧ w < n) (e0 : 0 ≤ e ∧ e < n) (q1 : e ≠ x) (q2 : e ≠ y) (q3 : e ≠ z) (q4 : e ≠ w) (p1 : f e = x ∨ f e = y) : sg_f u x y (sg_f v z w f) e = sg_f v z w (sg_f u x y f) e := by
  obtain ⟨d1, d2, d3, d4, d5, d6⟩ := d
  have iv : ∀ p q, (0 ≤ p ∧ p < n) → f p = q → f q = p := fun p q hp h => by have := (hf p hp.1 hp.2).1; rw [h] at this; exact this
  have g1 : f w = x → f x = w := iv w x w0
  have g2 : f w = y → f y = w := iv w y w0
  have g3 : f z = x → f x = z := iv z x z0
  have g4 : f z = y → f y = z := iv z y z0
  have g5 : f e = x → f x = e := iv e x e0
  have g6 : f e = y → f y = e := iv e y e0
  have c1 : f y = z → f z = y := iv y z y0
  have c2 : f y = w → f w = y := iv y w y0
  have c3 : f x = z → f z = x := iv x z x0
  have c4 : f x = w → f w = x := iv x w x0
  rw [sg_fn hu q1 q2, sg_fn hv q3 q4, sg_fn hv q3 q4, sg_fn hu q1 q2, sg_fn hv d3 d4, sg_fn hv d5 d6, sg_fn hu (fun c => d3 c.symm) (fun c => d5 c.symm), sg_fn hu (fun c => d4 c.symm) (fun c => d6 c.symm)]
  clear iv hf
  generalize f e = fe at *
  generalize f x = fx at *
  generalize f y = fy at *
  generalize f z = fz at *
  generalize f w = fw at *
  rcases p1 with p1 | p1
  · have e1 := g5 p1
    rw [if_neg (c := fe = z) (fun c => d3 (p1.symm.trans c)), if_neg (c := fe = w) (fun c => d4 (p1.symm.trans c)), if_pos p1, if_pos p1]
    by_cases h1 : fy = z
    · rw [if_pos h1, if_pos h1, if_neg (c := fw = x) (fun c => q4 (e1.symm.trans (g1 c))), if_neg (c := fw = y) (fun c => d2 (h1.symm.trans (g2 c)))]
    · rw [if_neg h1, if_neg h1]
      by_cases h2 : fy = w
      · rw [if_pos h2, if_pos h2, if_neg (c := fz = x) (fun c => q3 (e1.symm.trans (g3 c))), if_neg (c := fz = y) (fun c => h1 (g4 c))]
      · rw [if_neg h2, if_neg h2]
  · have e1 := g6 p1
    have nx : ¬ fe = x := fun c => d1 (c.symm.trans p1)
    rw [if_neg (c := fe = z) (fun c => d5 (p1.symm.trans c)), if_neg (c := fe = w) (fun c => d6 (p1.symm.trans c)), if_neg nx, if_pos p1, if_neg nx, if_pos p1]
    by_cases h1 : fx = z
    · rw [if_pos h1, if_pos h1, if_neg (c := fw = x) (fun c => d2 (h1.symm.trans (g1 c))), if_neg (c := fw = y) (fun c => q4 (e1.symm.trans (g2 c)))]
    · rw [if_neg h1, if_neg h1]
      by_cases h2 : fx = w
      · rw [if_pos h2, if_pos h2, if_neg (c := fz = x) (fun c => h1 (g3 c)), if_neg (c := fz = y) (fun c => q3 (e1.symm.trans (g4 c)))]
      · rw [if_neg h2, if_neg h2]
theorem sg_c11 {u v x y z w e n : Int} {f : Int → Int} (hu : u ≠ 0) (hv : v ≠ 0) (d : sg_d x y z w) (hf : ∀ e, 0 ≤ e → e < n → f (f e) = e ∧ f e ≠ e) (x0 : 0 ≤ x ∧ x < n) (y0 : 0 ≤ y ∧ y < n) (z0 : 0 ≤ z ∧ z < n) (w0 : 0 ≤ w ∧ w < n) (e0 : 0 ≤ e ∧ e < n) : sg_f u x y (sg_f v z w f) e = sg_f v z w (sg_f u x y f) e := by
  have dd := d
  obtain ⟨d1, d2, d3, d4, d5, d6⟩ := d
  by_cases q1 : e = x
  · rw [q1, sg_fx hu, sg_fn hv d3 d4, sg_fx hu, if_neg d5, if_neg d6]
  by_cases q2 : e = y
  · rw [q2, sg_fy hu d1, sg_fn hv d5 d6, sg_fy hu d1, if_neg d3, if_neg d4]
  by_cases q3 : e = z
  · rw [q3, sg_fx hv, sg_fn hu (fun c => d3 c.symm) (fun c => d5 c.symm), sg_fx hv, if_neg (fun c => d4 c.symm), if_neg (fun c => d6 c.symm)]
  by_cases q4 : e = w
  · rw [q4, sg_fy hv d2, sg_fn hu (fun c => d4 c.symm) (fun c => d6 c.symm), sg_fy hv d2, if_neg (fun c => d3 c.symm), if_neg (fun c => d5 c.symm)]
  by_cases p1 : f e = x ∨ f e = y
  · exact sg_c11a hu hv dd hf x0 y0 z0 w0 e0 q1 q2 q3 q4 p1
  by_cases p2 : f e = z ∨ f e = w
  · exact (sg_c11a hv hu (sg_d_s dd) hf z0 w0 x0 y0 e0 q3 q4 q1 q2 p2).symm
  rw [sg_fn hu q1 q2, sg_fn hv q3 q4, sg_fn hv q3 q4, sg_fn hu q1 q2]
  have n1 : ¬ f e = x := fun c => p1 (Or.inl c)
  have n2 : ¬ f e = y := fun c => p1 (Or.inr c)
  have n3 : ¬ f e = z := fun c => p2 (Or.inl c)
  have n4 : ¬ f e = w := fun c => p2 (Or.inr c)
  simp only [if_neg n1, if_neg n2, if_neg n3, if_neg n4]
theorem sg_c {u v x y z w e n : Int} {f : Int → Int} (d : sg_d x y z w) (hf : ∀ e, 0 ≤ e → e < n → f (f e) = e ∧ f e ≠ e) (x0 : 0 ≤ x ∧ x < n) (y0 : 0 ≤ y ∧ y < n) (z0 : 0 ≤ z ∧ z < n) (w0 : 0 ≤ w ∧ w < n) (e0 : 0 ≤ e ∧ e < n) : sg_f u x y (sg_f v z w f) e = sg_f v z w (sg_f u x y f) e := by
  by_cases hu : u = 0
  · subst hu
    by_cases hv : v = 0
    · subst hv
      have g : ∀ (x y : Int) (F : Int → Int) (e : Int), sg_f 0 x y F e = sg_t x y (F (sg_t x y e)) := fun x y F e => if_pos rfl
      rw [g x y, g z w, g z w, g x y, sg_tt d, sg_tt (sg_d_s d) (e := e)]
    · exact sg_c01 hv d
  · by_cases hv : v = 0
    · subst hv; exact (sg_c01 hu (sg_d_s d)).symm
    · exact sg_c11 hu hv d hf x0 y0 z0 w0 e0
theorem sg_kc {u v x y z w n : Int} {f : Int → Int} (d : sg_d x y z w) (hf : ∀ e, 0 ≤ e → e < n → f (f e) = e ∧ f e ≠ e) (x0 : 0 ≤ x ∧ x < n) (y0 : 0 ≤ y ∧ y < n) (z0 : 0 ≤ z ∧ z < n) (w0 : 0 ≤ w ∧ w < n) : sg_k u x y f + sg_k v z w (sg_f u x y f) = sg_k v z w f + sg_k u x y (sg_f v z w f) := by
  have dd := d
  obtain ⟨d1, d2, d3, d4, d5, d6⟩ := d
  have iv : ∀ p q, (0 ≤ p ∧ p < n) → f p = q → f q = p := fun p q hp h => by have := (hf p hp.1 hp.2).1; rw [h] at this; exact this
  have K0 : ∀ (x y : Int) (f : Int → Int), sg_k 0 x y f = 0 := fun x y f => if_neg (fun c => c.1 rfl)
  have K1 : ∀ (u x y : Int) (f : Int → Int), u ≠ 0 → sg_k u x y f = if f x = y then 1 else 0 := fun u x y f hu => by
    unfold sg_k
    by_cases z : f x = y
    · rw [if_pos ⟨hu, z⟩, if_pos z]
    · rw [if_neg (fun c => z c.2), if_neg z]
  have C0 : ∀ (u x y z w : Int), sg_d x y z w → sg_k u z w (sg_f 0 x y f) = sg_k u z w f := fun u x y z w d => by
    obtain ⟨d1, d2, d3, d4, d5, d6⟩ := d
    have g : sg_f 0 x y f z = sg_t x y (f (sg_t x y z)) := if_pos rfl
    have i : sg_t x y (f z) = w ↔ f z = w := ⟨fun h => by rw [← sg_ti (e := f z) d1, h, sg_t_h (fun c => d4 c.symm) (fun c => d6 c.symm)], fun h => by rw [h, sg_t_h (fun c => d4 c.symm) (fun c => d6 c.symm)]⟩
    unfold sg_k
    rw [g, sg_t_h (e := z) (fun c => d3 c.symm) (fun c => d5 c.symm)]
    simp only [i]
  by_cases hu : u = 0
  · subst hu
    rw [K0, C0 v x y z w dd, K0]; omega
  · by_cases hv : v = 0
    · subst hv
      rw [K0, C0 u z w x y (sg_d_s dd), K0]; omega
    · rw [K1 u x y f hu, K1 v z w _ hv, K1 v z w f hv, K1 u x y _ hu, sg_fn hu (fun c => d3 c.symm) (fun c => d5 c.symm), sg_fn hv d3 d4]
      have a1 := iv x y x0
      have a2 := iv x z x0
      have a3 := iv x w x0
      have b1 := iv y x y0
      have b2 := iv y z y0
      have b3 := iv y w y0
      have c1 := iv z x z0
      have c2 := iv z y z0
      have c3 := iv z w z0
      have e1 := iv w x w0
      have e2 := iv w y w0
      have e3 := iv w z w0
      clear iv hf K0 K1 C0 dd
      generalize f x = fx at *
      generalize f y = fy at *
      generalize f z = fz at *
      generalize f w = fw at *
      by_cases q1 : fz = x
      · have := c1 q1
        rw [if_pos q1, if_neg (c := fz = w) (by omega), if_neg (c := fx = y) (by omega), if_pos this]
        by_cases q2 : fy = w
        · have := b3 q2; rw [if_pos q2, if_pos this]
        · rw [if_neg q2, if_neg (fun c => q2 (e2 c))]
      · rw [if_neg q1]
        by_cases q2 : fz = y
        · have := c2 q2
          rw [if_pos q2, if_neg (c := fz = w) (by omega), if_neg (c := fx = y) (fun c => by have := a1 c; omega), if_neg (c := fx = z) (fun c => q1 (a2 c))]
          by_cases q3 : fx = w
          · simp only [if_pos q3, if_pos q2]
          · have ny : ¬ fx = y := fun c => by have := a1 c; omega
            simp only [if_neg q3, if_neg ny]
        · rw [if_neg q2, if_neg (c := fx = z) (fun c => q1 (a2 c))]
          by_cases q3 : fx = w
          · rw [if_pos q3, if_neg (c := fz = y) q2]
            have := a3 q3
            rw [if_neg (c := fx = y) (by omega)]
            by_cases q4 : fz = w
            · rw [if_pos q4]; omega
            · rw [if_neg q4]
          · rw [if_neg q3]; omega
/-! a sign behind or before a matching: how many loops -/
theorem mo_hit {h r : Int} {a b : Int → Int} (ha : mt_M h a) (hb : mt_M h b) (r0 : 0 ≤ r) (r1 : r + 2 ≤ h) (xa : a (h + r) = h + r + 1) (xb : b r = r + 1) : ∀ (n : Nat) (x : Int), mt_all h x → ¬ (x = h + r ∨ x = h + r + 1 ∨ x = 2 * h + r ∨ x = 2 * h + r + 1) → ¬ mt_hit h a b n x r ∧ ¬ mt_hit h a b n x (r + 1) := by
  have ya : a (h + r + 1) = h + r := by rw [← xa]; exact (ha (h + r) (by omega) (by omega)).2.2.1
  have yb : b (r + 1) = r := by rw [← xb]; exact (hb r r0 (by omega)).2.2.1
  have p1 : mt_P h a b (h + r) = h + r + 1 := by unfold mt_P; rw [if_pos (by omega)]; exact xa
  have p2 : mt_P h a b (h + r + 1) = h + r := by unfold mt_P; rw [if_pos (by omega)]; exact ya
  have p3 : mt_P h a b (2 * h + r) = 2 * h + r + 1 := by unfold mt_P; rw [if_neg (by omega), show 2 * h + r - 2 * h = r by omega, xb]; omega
  have p4 : mt_P h a b (2 * h + r + 1) = 2 * h + r := by unfold mt_P; rw [if_neg (by omega), show 2 * h + r + 1 - 2 * h = r + 1 by omega, yb]
  intro n
  induction n with
  | zero => intro x _ _; exact ⟨fun c => c, fun c => c⟩
  | succ n ih =>
    intro x hx nx
    obtain ⟨q1, q2, q3⟩ := mt_P_inv ha hb hx
    have np : ¬ (mt_P h a b x = h + r ∨ mt_P h a b x = h + r + 1 ∨ mt_P h a b x = 2 * h + r ∨ mt_P h a b x = 2 * h + r + 1) := fun c => by
      rcases c with c | c | c | c <;> rw [c] at q2 <;> omega
    generalize hy : mt_P h a b x = y at *
    have nj : mt_in h y → mt_all h (mt_J h y) ∧ ¬ (mt_J h y = h + r ∨ mt_J h y = h + r + 1 ∨ mt_J h y = 2 * h + r ∨ mt_J h y = 2 * h + r + 1) := fun hin => by
      refine ⟨mt_in_all (mt_J_inv hin).1, ?_⟩
      have hin : h ≤ y ∧ y < 3 * h := hin
      unfold mt_J
      split <;> omega
    have rl : mt_in h y → mt_rl h y ≠ r ∧ mt_rl h y ≠ r + 1 := fun hin => by
      have hin : h ≤ y ∧ y < 3 * h := hin
      unfold mt_rl
      constructor <;> split <;> omega
    constructor
    · intro c
      rw [mt_hit_s, hy] at c
      rcases c.2 with z | z
      · exact (rl c.1).1 z
      · exact (ih _ (nj c.1).1 (nj c.1).2).1 z
    · intro c
      rw [mt_hit_s, hy] at c
      rcases c.2 with z | z
      · exact (rl c.1).2 z
      · exact (ih _ (nj c.1).1 (nj c.1).2).2 z
theorem mo_L {h r : Int} {a b : Int → Int} (h2 : 2 ≤ h) (h5 : h ≤ 5) (ha : mt_M h a) (hb : mt_M h b) (r0 : 0 ≤ r) (r1 : r + 2 ≤ h) (H : ∀ q, 0 ≤ q → q < h → q ≠ r → q ≠ r + 1 → h ≤ b q ∨ a (q + h) < h) : mt_both h a b 20 = w64 (w64 (a 20 + b 20) + if a (h + r) = h + r + 1 ∧ b r = r + 1 then 1 else 0) := by
  have e20 : mt_both h a b 20 = (mt_rs h a b h.toNat).2.1 := by unfold mt_both; rw [if_neg (by omega), if_neg (by omega), if_pos rfl]
  have C := mt_mm_C (by omega) h5 ha hb
  obtain ⟨B1, B2⟩ := mt_mm_bit (a := a) (b := b) h5 (2 * h).toNat
  have i0 : mt_rs h a b 0 = (mt_mm h a b (2 * h).toNat, w64 (a 20 + b 20), max (a 21) (b 21), w64 (a 22 + b 22)) := rfl
  generalize hm : mt_mm h a b (2 * h).toNat = m0 at *
  have U : ∀ q, 0 ≤ q → q < h → mb_t m0 q = 0 → q = r ∨ q = r + 1 := fun q q0 q1 z => by
    obtain ⟨⟨c1, c2⟩, c3, c4⟩ := C.2 q q0 q1 z
    by_cases z1 : q = r
    · exact Or.inl z1
    · by_cases z2 : q = r + 1
      · exact Or.inr z2
      · have := H q q0 q1 z1 z2; omega
  have st : ∀ n : Nat, mt_rs h a b (n + 1) = if mb_t (mt_rs h a b n).1 n = 0 then (b_or (mt_rs h a b n).1 (mt_rg h a b n).1, w64 ((mt_rs h a b n).2.1 + 1), max (mt_rs h a b n).2.2.1 (mt_rg h a b n).2.1, w64 ((mt_rs h a b n).2.2.2 + (mt_rg h a b n).2.1)) else mt_rs h a b n := fun n => rfl
  rw [e20]
  by_cases X : a (h + r) = h + r + 1 ∧ b r = r + 1
  · rw [if_pos X]
    obtain ⟨xa, xb⟩ := X
    have ya : a (h + r + 1) = h + r := by rw [← xa]; exact (ha (h + r) (by omega) (by omega)).2.2.1
    have un : mb_t m0 r = 0 := by
      rcases mb_t_01 m0 r with z | z
      · exact z
      · obtain ⟨e, he, hit⟩ := (B2 r r0 (by omega)).1 z
        obtain ⟨s1, s2, s3⟩ := mt_s_all (h := h) (e := e) (by omega) (by omega)
        have s2 : ¬ (h ≤ mt_s h e ∧ mt_s h e < 3 * h) := s2
        exact absurd hit (mo_hit ha hb r0 r1 xa xb 10 (mt_s h e) s1 (by omega)).1
    have rg : (mt_rg h a b r).1 = b_or 0 (b_or (b_shl 1 (r + 1)) (b_shl 1 r)) := by
      have e1 : mt_r1 h a b 0 0 r = (b_or 0 (b_or (b_shl 1 (b r)) (b_shl 1 (a (b r + h) - h))), w64 (0 + w64 (b (10 + r) + a (10 + (b r + h)))), a (b r + h) - h) := rfl
      have e2 : a (b r + h) - h = r := by rw [xb, show r + 1 + h = h + r + 1 by omega, ya]; omega
      unfold mt_rg
      rw [if_pos (by rw [e1]; exact e2), e1, e2, xb]
    obtain ⟨k1, k2⟩ := mb_shl_m (k := 5) (r := r) (by omega) r0 (by omega)
    obtain ⟨k3, k4⟩ := mb_shl_m (k := 5) (r := r + 1) (by omega) (by omega) (by omega)
    obtain ⟨k5, k6⟩ := mb_or_m (k := 5) (by omega) k3 k1
    obtain ⟨k7, k8⟩ := mb_or_m (k := 5) (a := 0) (by omega) ⟨by omega, by omega⟩ k5
    obtain ⟨k9, k10⟩ := mb_or_m (k := 5) (by omega) B1 k7
    have K : ∀ n : Nat, (n : Int) ≤ h → ((n : Int) ≤ r → (mt_rs h a b n).1 = m0 ∧ (mt_rs h a b n).2.1 = w64 (a 20 + b 20)) ∧ (r < n → (mt_rs h a b n).1 = b_or m0 (mt_rg h a b r).1 ∧ (mt_rs h a b n).2.1 = w64 (w64 (a 20 + b 20) + 1)) := by
      intro n
      induction n with
      | zero => intro _; rw [i0]; exact ⟨fun _ => ⟨rfl, rfl⟩, fun z => by omega⟩
      | succ n ih =>
        intro hn
        obtain ⟨i1, i2⟩ := ih (by omega)
        rw [st n]
        by_cases z : (n : Int) ≤ r
        · obtain ⟨i1, i3⟩ := i1 z
          by_cases z2 : (n : Int) = r
          · rw [i1, z2, if_pos un, i3]
            exact ⟨fun c => by omega, fun _ => ⟨rfl, rfl⟩⟩
          · have : mb_t m0 n ≠ 0 := fun c => by have := U n (by omega) (by omega) c; omega
            rw [i1, if_neg this]
            exact ⟨fun _ => ⟨i1, i3⟩, fun c => by omega⟩
        · obtain ⟨i1, i3⟩ := i2 (by omega)
          have : mb_t (b_or m0 (mt_rg h a b r).1) n = 1 := by
            rw [rg, k10 n (by omega) (by omega), if_pos]
            by_cases z2 : (n : Int) = r + 1
            · right
              rw [k8 n (by omega) (by omega), if_pos]
              right
              rw [k6 n (by omega) (by omega), if_pos]
              left
              rw [k4 n (by omega) (by omega), if_pos z2]
            · left
              rcases mb_t_01 m0 n with y | y
              · have := U n (by omega) (by omega) y; omega
              · exact y
          rw [i1, if_neg (by omega)]
          exact ⟨fun c => by omega, fun _ => ⟨i1, i3⟩⟩
    exact ((K h.toNat (by omega)).2 (by omega)).2
  · rw [if_neg X]
    have all1 : ∀ q, 0 ≤ q → q < h → mb_t m0 q ≠ 0 := fun q q0 q1 z => by
      have uq := U q q0 q1 z
      obtain ⟨⟨c1, c2⟩, c3, c4⟩ := C.2 q q0 q1 z
      obtain ⟨b1, b2, b3, b4⟩ := hb q q0 (by omega)
      obtain ⟨a1, a2, a3, a4⟩ := ha (q + h) (by omega) (by omega)
      have ub := U (b q) b1 c1 c2
      have ua := U (a (q + h) - h) (by omega) (by omega) c4
      rcases uq with uq | uq
      · subst uq
        have e1 : b q = q + 1 := by omega
        have e2 : a (q + h) = q + h + 1 := by omega
        exact X ⟨by rw [show h + q = q + h by omega, e2], e1⟩
      · subst uq
        have e1 : b (r + 1) = r := by omega
        have e2 : a (r + 1 + h) = h + r := by omega
        rw [e1] at b3
        rw [e2] at a3
        exact X ⟨by rw [a3]; omega, b3⟩
    have K : ∀ n : Nat, (n : Int) ≤ h → mt_rs h a b n = mt_rs h a b 0 := by
      intro n
      induction n with
      | zero => intro _; rfl
      | succ n ih =>
        intro hn
        have i := ih (by omega)
        rw [st n, i, if_neg (by rw [i0]; exact all1 n (by omega) (by omega))]
    rw [K h.toNat (by omega), i0]
    show w64 (a 20 + b 20) = w64 (w64 (a 20 + b 20) + 0)
    rw [w64_al, Int.add_zero]
theorem sg_20 {h r u : Int} : mt_sgn h r u 20 = 0 := by
  unfold mt_sgn
  rw [if_neg (by omega), if_neg (by omega), if_neg (by omega), if_neg (by omega), if_neg (by omega)]
theorem sg_r20 {h r u : Int} {a : Int → Int} (h2 : 2 ≤ h) (h5 : h ≤ 5) (ha : mt_M h a) (r0 : 0 ≤ r) (r1 : r + 2 ≤ h) (l0 : 0 ≤ a 20) (l1 : a 20 ≤ 1000) : mt_both h a (mt_sgn h r u) 20 = a 20 + sg_k u (h + r) (h + r + 1) a := by
  rw [mo_L h2 h5 ha (mt_sgn_M h5 r0 r1) r0 r1 (fun q q0 q1 n1 n2 => ?_), sg_20, Int.add_zero, w64_id (x := a 20) ⟨by omega, by omega⟩]
  · have : (if a (h + r) = h + r + 1 ∧ mt_sgn h r u r = r + 1 then 1 else 0) = sg_k u (h + r) (h + r + 1) a := by
      unfold sg_k
      by_cases hu : u = 0
      · subst hu
        have := (sg_S0 (q := r) h5 r0 r1 r0 (by omega)).1
        have t := sg_t_r (q := r) r0 r1 r0 (by omega)
        rw [if_neg (fun c => by have := c.2; omega), if_neg (fun c => c.1 rfl)]
      · have := ((sg_S1 (q := r) h5 hu r0 r1 r0 (by omega)).1 rfl).1
        by_cases z : a (h + r) = h + r + 1
        · rw [if_pos ⟨z, this⟩, if_pos ⟨hu, z⟩]
        · rw [if_neg (fun c => z c.1), if_neg (fun c => z c.2)]
    rw [this]
    have : 0 ≤ sg_k u (h + r) (h + r + 1) a ∧ sg_k u (h + r) (h + r + 1) a ≤ 1 := by unfold sg_k; split <;> omega
    exact w64_id ⟨by omega, by omega⟩
  · left
    by_cases hu : u = 0
    · subst hu
      have := (sg_S0 (q := q) h5 r0 r1 q0 q1).1
      have t := sg_t_r (q := q) r0 r1 q0 q1
      omega
    · have := ((sg_S1 (q := q) h5 hu r0 r1 q0 q1).2.2 n1 n2).1
      omega
theorem sg_l20 {h r u : Int} {a : Int → Int} (h2 : 2 ≤ h) (h5 : h ≤ 5) (ha : mt_M h a) (r0 : 0 ≤ r) (r1 : r + 2 ≤ h) (l0 : 0 ≤ a 20) (l1 : a 20 ≤ 1000) : mt_both h (mt_sgn h r u) a 20 = a 20 + sg_k u r (r + 1) a := by
  rw [mo_L h2 h5 (mt_sgn_M h5 r0 r1) ha r0 r1 (fun q q0 q1 n1 n2 => ?_), sg_20, Int.zero_add, w64_id (x := a 20) ⟨by omega, by omega⟩]
  · have : (if mt_sgn h r u (h + r) = h + r + 1 ∧ a r = r + 1 then 1 else 0) = sg_k u r (r + 1) a := by
      unfold sg_k
      by_cases hu : u = 0
      · subst hu
        have := (sg_S0 (q := r) h5 r0 r1 r0 (by omega)).2
        have t := sg_t_r (q := r) r0 r1 r0 (by omega)
        rw [if_neg (fun c => by have := c.1; omega), if_neg (fun c => c.1 rfl)]
      · have := ((sg_S1 (q := r) h5 hu r0 r1 r0 (by omega)).1 rfl).2
        by_cases z : a r = r + 1
        · rw [if_pos ⟨this, z⟩, if_pos ⟨hu, z⟩]
        · rw [if_neg (fun c => z c.2), if_neg (fun c => z c.2)]
    rw [this]
    have : 0 ≤ sg_k u r (r + 1) a ∧ sg_k u r (r + 1) a ≤ 1 := by unfold sg_k; split <;> omega
    exact w64_id ⟨by omega, by omega⟩
  · right
    rw [show q + h = h + q by omega]
    by_cases hu : u = 0
    · subst hu
      have := (sg_S0 (q := q) h5 r0 r1 q0 q1).2
      have t := sg_t_r (q := q) r0 r1 q0 q1
      omega
    · have := ((sg_S1 (q := q) h5 hu r0 r1 q0 q1).2.2 n1 n2).2
      omega
