/-! the number of a matching: below 945, and no two have the same -/
def mb_bt (o e p : Nat) : Nat := o &&& (2 ^ p - 2 ^ (e + 1))
def mb_rm (o e p : Nat) : Nat := o ^^^ (o &&& (2 ^ e ||| 2 ^ p))
def mb_k1 (o e : Nat) : Bool := mb_fc (mb_pc 10 o) fun c => (mb_pc 10 (mb_bt o e (e + 1)) == 0) && (mb_pc 10 (mb_bt o e 10) + 1 == c) && mb_all (fun p => if p ≤ e then true else mb_fc (mb_pc 10 (mb_bt o e p)) fun d => (if o.testBit p then (mb_pc 10 (mb_bt o e (p + 1)) == d + 1) && (mb_pc 10 (mb_rm o e p) + 2 == c) else mb_pc 10 (mb_bt o e (p + 1)) == d)) 10
def mb_k2 (o : Nat) : Bool := mb_all (fun e => if o % 2 ^ e = 0 then (if o.testBit e then mb_k1 o e else true) else true) 10
theorem mb_k2_e : mb_all mb_k2 1024 = true := by decide +kernel
theorem mb_pc_10 : mb_all (fun o => mb_pc 16 o == mb_pc 10 o) 1024 = true := by decide +kernel
theorem mb_k {o e : Nat} (ho : o < 1024) (he : e < 10) (hl : o % 2 ^ e = 0) (hb : o.testBit e = true) : mb_pc 10 (mb_bt o e (e + 1)) = 0 ∧ mb_pc 10 (mb_bt o e 10) + 1 = mb_pc 10 o ∧ ∀ p, e < p → p < 10 → mb_pc 10 (mb_bt o e (p + 1)) = mb_pc 10 (mb_bt o e p) + (if o.testBit p then 1 else 0) ∧ (o.testBit p = true → mb_pc 10 (mb_rm o e p) + 2 = mb_pc 10 o) := by
  have g := mb_all_e 1024 mb_k2_e o ho
  unfold mb_k2 at g
  have g := mb_all_e 10 g e he
  have g : (if o % 2 ^ e = 0 then (if o.testBit e then mb_k1 o e else true) else true) = true := g
  rw [if_pos hl, if_pos hb] at g
  unfold mb_k1 at g
  rw [mb_fc_e] at g
  simp only [Bool.and_eq_true, beq_iff_eq] at g
  obtain ⟨⟨g1, g2⟩, g3⟩ := g
  refine ⟨g1, g2, fun p p1 p2 => ?_⟩
  have g4 := mb_all_e 10 g3 p p2
  rw [if_neg (by omega), mb_fc_e] at g4
  by_cases q : o.testBit p = true
  · rw [if_pos q] at g4
    simp only [Bool.and_eq_true, beq_iff_eq] at g4
    rw [if_pos q]
    exact ⟨g4.1, fun _ => g4.2⟩
  · rw [if_neg q] at g4
    rw [if_neg q]
    simp only [beq_iff_eq] at g4
    exact ⟨g4, fun c => absurd c q⟩
theorem mb_d_mono {o e : Nat} (ho : o < 1024) (he : e < 10) (hl : o % 2 ^ e = 0) (hb : o.testBit e = true) : ∀ (d p : Nat), e < p → p + d ≤ 10 → mb_pc 10 (mb_bt o e p) ≤ mb_pc 10 (mb_bt o e (p + d)) := by
  intro d
  induction d with
  | zero => intro p _ _; exact Nat.le_refl _
  | succ d ih =>
    intro p p1 p2
    have h1 := ih p p1 (by omega)
    have h2 := ((mb_k ho he hl hb).2.2 (p + d) (by omega) (by omega)).1
    rw [show p + (d + 1) = p + d + 1 by omega]
    omega
theorem mb_d_lt {o e p p' : Nat} (ho : o < 1024) (he : e < 10) (hl : o % 2 ^ e = 0) (hb : o.testBit e = true) (p1 : e < p) (p2 : p < p') (p3 : p' ≤ 10) (hp : o.testBit p = true) : mb_pc 10 (mb_bt o e p) < mb_pc 10 (mb_bt o e p') := by
  have h1 := mb_d_mono ho he hl hb (p' - (p + 1)) (p + 1) (by omega) (by omega)
  have h2 := ((mb_k ho he hl hb).2.2 p p1 (by omega)).1
  rw [if_pos hp] at h2
  rw [show p + 1 + (p' - (p + 1)) = p' by omega] at h1
  omega
def mt_nm (f : Int → Int) : Nat → Nat → Nat → Nat → Nat
  | 0, _, _, s => s
  | k + 1, e, o, s => if o.testBit e then mt_nm f k (e + 1) (mb_rm o e (f e).toNat) (s * (mb_pc 10 o - 1) + mb_pc 10 (mb_bt o e (f e).toNat)) else mt_nm f k (e + 1) o s
def mt_num (h : Int) (f : Int → Int) : Nat := mt_nm f (2 * h).toNat 0 (2 ^ (2 * h).toNat - 1) 0
def mb_R : Nat → Nat
  | 0 => 1
  | 1 => 1
  | k + 2 => (k + 1) * mb_R k
/-- what is open before e -/
def mt_op (h : Int) (f : Int → Int) (e o : Nat) : Prop := o < 1024 ∧ o % 2 ^ e = 0 ∧ ∀ j : Nat, j < 10 → (o.testBit j = true ↔ e ≤ j ∧ (j : Int) < 2 * h ∧ (e : Int) ≤ f j)
theorem mt_op_s {h : Int} {f : Int → Int} (h5 : h ≤ 5) (hf : mt_M h f) {e o : Nat} (e1 : (e : Int) < 2 * h) (p : mt_op h f e o) (q : o.testBit e = false) : mt_op h f (e + 1) o := by
  obtain ⟨o1, o2, o3⟩ := p
  have z : ¬ (e ≤ e ∧ (e : Int) < 2 * h ∧ (e : Int) ≤ f e) := fun c => by have := (o3 e (by omega)).2 c; rw [q] at this; exact absurd this (by decide)
  have fe : f e < e := by
    rcases Int.lt_or_le (f e) e with c | c
    · exact c
    · exact absurd ⟨Nat.le_refl e, e1, c⟩ z
  refine ⟨o1, ?_, fun j j1 => ?_⟩
  · have : o % 2 ^ (e + 1) = 0 := by
      rw [Nat.testBit, Nat.shiftRight_eq_div_pow] at q
      have hd := Nat.div_add_mod o (2 ^ e)
      have e2 : o / 2 ^ e % 2 = 0 := by
        have : 1 &&& (o / 2 ^ e) = (o / 2 ^ e) % 2 := by rw [Nat.and_comm, Nat.and_one_is_mod]
        rw [this] at q
        have h01 := Nat.mod_two_eq_zero_or_one (o / 2 ^ e)
        rcases h01 with c | c
        · exact c
        · rw [c] at q; exact absurd q (by decide)
      obtain ⟨t, ht⟩ : ∃ t, o / 2 ^ e = 2 * t := ⟨o / 2 ^ e / 2, by omega⟩
      rw [o2, ht] at hd
      have : o = 2 ^ (e + 1) * t := by rw [Nat.pow_succ, Nat.mul_assoc]; omega
      rw [this]; exact Nat.mul_mod_right _ _
    exact this
  · rw [o3 j j1]
    constructor
    · rintro ⟨c1, c2, c3⟩
      have ne : j ≠ e := fun c => by subst c; omega
      refine ⟨by omega, c2, ?_⟩
      have g := hf j (by omega) c2
      have ne2 : f j ≠ e := fun c => by
        have := g.2.2.1
        rw [c] at this
        omega
      omega
    · rintro ⟨c1, c2, c3⟩
      exact ⟨by omega, c2, by omega⟩
theorem mb_rm_bit {o e p j : Nat} : (mb_rm o e p).testBit j = (o.testBit j && !(decide (e = j) || decide (p = j))) := by
  unfold mb_rm
  rw [Nat.testBit_xor, Nat.testBit_and, Nat.testBit_or, Nat.testBit_two_pow, Nat.testBit_two_pow]
  cases o.testBit j <;> cases decide (e = j) <;> cases decide (p = j) <;> rfl
theorem mb_rm_le {o e p : Nat} (k : Nat) (h : o < 2 ^ k) : mb_rm o e p < 2 ^ k := by
  apply Nat.lt_pow_two_of_testBit
  intro i hi
  rw [mb_rm_bit, Nat.testBit_lt_two_pow (Nat.lt_of_lt_of_le h (Nat.pow_le_pow_right (by omega) hi))]
  rfl
theorem mb_low {o e : Nat} : o % 2 ^ e = 0 ↔ ∀ j, j < e → o.testBit j = false := by
  constructor
  · intro h j hj
    have := Nat.testBit_mod_two_pow o e j
    rw [h] at this
    simp [hj] at this
    exact this
  · intro h
    apply Nat.eq_of_testBit_eq
    intro j
    rw [Nat.testBit_mod_two_pow]
    by_cases q : j < e
    · simp [h j q]
    · simp [q]
theorem mt_op_p {h : Int} {f : Int → Int} (h5 : h ≤ 5) (hf : mt_M h f) {e o : Nat} (p : mt_op h f e o) (q : o.testBit e = true) (e10 : e < 10) : (e : Int) < f e ∧ f e < 2 * h ∧ o.testBit (f e).toNat = true ∧ mt_op h f (e + 1) (mb_rm o e (f e).toNat) := by
  obtain ⟨o1, o2, o3⟩ := p
  obtain ⟨c1, c2, c3⟩ := (o3 e e10).1 q
  obtain ⟨g1, g2, g3, g4⟩ := hf e (by omega) c2
  have fe : ((f e).toNat : Int) = f e := by omega
  refine ⟨by omega, g2, ?_, mb_rm_le 10 o1, ?_, fun j j1 => ?_⟩
  · refine (o3 _ (by omega)).2 ⟨by omega, by omega, ?_⟩
    rw [fe, g3]; omega
  · rw [mb_low]
    intro j hj
    rw [mb_rm_bit]
    by_cases z : e = j
    · subst z; simp
    · rw [mb_low.1 o2 j (by omega)]; rfl
  · rw [mb_rm_bit]
    constructor
    · intro c
      simp only [Bool.and_eq_true, Bool.not_eq_true', Bool.or_eq_false_iff, decide_eq_false_iff_not] at c
      obtain ⟨d1, d2, d3⟩ := c
      obtain ⟨x1, x2, x3⟩ := (o3 j j1).1 d1
      have g := hf j (by omega) x2
      refine ⟨by omega, x2, ?_⟩
      have : f j ≠ e := fun c => by
        have := g.2.2.1
        rw [c] at this
        omega
      omega
    · rintro ⟨x1, x2, x3⟩
      have d1 := (o3 j j1).2 ⟨by omega, x2, by omega⟩
      have g := hf j (by omega) x2
      have ne : (f e).toNat ≠ j := fun c => by
        have : f e = j := by omega
        rw [← this, g3] at x3
        omega
      simp only [Bool.and_eq_true, Bool.not_eq_true', Bool.or_eq_false_iff, decide_eq_false_iff_not]
      exact ⟨d1, by omega, ne⟩
theorem mt_nm_B {h : Int} {f : Int → Int} (h5 : h ≤ 5) (hf : mt_M h f) : ∀ (k e o s : Nat), (e : Int) + k = 2 * h → mt_op h f e o → s * mb_R (mb_pc 10 o) ≤ mt_nm f k e o s ∧ mt_nm f k e o s < (s + 1) * mb_R (mb_pc 10 o) := by
  intro k
  induction k with
  | zero =>
    intro e o s he p
    have : o = 0 := by
      apply Nat.eq_of_testBit_eq
      intro j
      rw [Nat.zero_testBit]
      by_cases q : j < 10
      · rcases hq : o.testBit j with _ | _
        · rfl
        · have := (p.2.2 j q).1 hq; omega
      · exact Nat.testBit_lt_two_pow (Nat.lt_of_lt_of_le p.1 (Nat.pow_le_pow_right (n := 2) (i := 10) (by omega) (by omega)))
    subst this
    unfold mt_nm
    show s * 1 ≤ s ∧ s < (s + 1) * 1
    omega
  | succ k ih =>
    intro e o s he p
    unfold mt_nm
    by_cases q : o.testBit e = true
    · rw [if_pos q]
      obtain ⟨g1, g2, g3, g4⟩ := mt_op_p h5 hf p q (by omega)
      obtain ⟨k1, k2, k3⟩ := mb_k p.1 (by omega) p.2.1 q
      obtain ⟨k4, k5⟩ := k3 (f e).toNat (by omega) (by omega)
      have k5 := k5 g3
      rw [if_pos g3] at k4
      have m := mb_d_mono p.1 (by omega) p.2.1 q (10 - ((f e).toNat + 1)) ((f e).toNat + 1) (by omega) (by omega)
      rw [show (f e).toNat + 1 + (10 - ((f e).toNat + 1)) = 10 by omega] at m
      obtain ⟨i1, i2⟩ := ih (e + 1) (mb_rm o e (f e).toNat) (s * (mb_pc 10 o - 1) + mb_pc 10 (mb_bt o e (f e).toNat)) (by omega) g4
      generalize mb_pc 10 (mb_bt o e (f e).toNat) = d at *
      generalize hc : mb_pc 10 (mb_rm o e (f e).toNat) = c at *
      have hR : mb_R (mb_pc 10 o) = (c + 1) * mb_R c := by rw [← k5]; rfl
      rw [hR]
      have e1 : mb_pc 10 o - 1 = c + 1 := by omega
      rw [e1] at i1 i2 ⊢
      have a1 : s * ((c + 1) * mb_R c) = s * (c + 1) * mb_R c := (Nat.mul_assoc _ _ _).symm
      have a2 : (s + 1) * ((c + 1) * mb_R c) = (s + 1) * (c + 1) * mb_R c := (Nat.mul_assoc _ _ _).symm
      rw [a1, a2]
      refine ⟨Nat.le_trans (Nat.mul_le_mul_right _ (by omega)) i1, Nat.lt_of_lt_of_le i2 (Nat.mul_le_mul_right _ ?_)⟩
      rw [Nat.add_mul]
      omega
    · rw [if_neg q]
      exact ih (e + 1) o s (by omega) (mt_op_s h5 hf (by omega) p (by simpa using q))
theorem mt_div {a b R r : Nat} (h1 : a * R ≤ r) (h2 : r < (a + 1) * R) (h3 : b * R ≤ r) (h4 : r < (b + 1) * R) : a = b := by
  rcases Nat.lt_trichotomy a b with q | q | q
  · have := Nat.mul_le_mul_right R (show a + 1 ≤ b from q); omega
  · exact q
  · have := Nat.mul_le_mul_right R (show b + 1 ≤ a from q); omega
theorem mt_nm_I {h : Int} {f g : Int → Int} (h5 : h ≤ 5) (hf : mt_M h f) (hg : mt_M h g) : ∀ (k e o s t : Nat), (e : Int) + k = 2 * h → mt_op h f e o → mt_op h g e o → mt_nm f k e o s = mt_nm g k e o t → s = t ∧ ∀ j : Nat, j < 10 → o.testBit j = true → f j = g j := by
  intro k
  induction k with
  | zero =>
    intro e o s t he p p' q
    refine ⟨q, fun j j1 c => ?_⟩
    have := (p.2.2 j j1).1 c
    omega
  | succ k ih =>
    intro e o s t he p p' r
    unfold mt_nm at r
    by_cases q : o.testBit e = true
    · rw [if_pos q, if_pos q] at r
      obtain ⟨g1, g2, g3, g4⟩ := mt_op_p h5 hf p q (by omega)
      obtain ⟨g1', g2', g3', g4'⟩ := mt_op_p h5 hg p' q (by omega)
      obtain ⟨k1, k2, k3⟩ := mb_k p.1 (by omega) p.2.1 q
      have k5 := (k3 (f e).toNat (by omega) (by omega)).2 g3
      have k5' := (k3 (g e).toNat (by omega) (by omega)).2 g3'
      have k4 := (k3 (f e).toNat (by omega) (by omega)).1
      have k4' := (k3 (g e).toNat (by omega) (by omega)).1
      rw [if_pos g3] at k4
      rw [if_pos g3'] at k4'
      have m := mb_d_mono p.1 (by omega) p.2.1 q (10 - ((f e).toNat + 1)) ((f e).toNat + 1) (by omega) (by omega)
      have m' := mb_d_mono p.1 (by omega) p.2.1 q (10 - ((g e).toNat + 1)) ((g e).toNat + 1) (by omega) (by omega)
      rw [show (f e).toNat + 1 + (10 - ((f e).toNat + 1)) = 10 by omega] at m
      rw [show (g e).toNat + 1 + (10 - ((g e).toNat + 1)) = 10 by omega] at m'
      obtain ⟨i1, i2⟩ := mt_nm_B h5 hf k (e + 1) _ (s * (mb_pc 10 o - 1) + mb_pc 10 (mb_bt o e (f e).toNat)) (by omega) g4
      obtain ⟨i1', i2'⟩ := mt_nm_B h5 hg k (e + 1) _ (t * (mb_pc 10 o - 1) + mb_pc 10 (mb_bt o e (g e).toNat)) (by omega) g4'
      rw [← r, show mb_pc 10 (mb_rm o e (g e).toNat) = mb_pc 10 (mb_rm o e (f e).toNat) by omega] at i1' i2'
      have es := mt_div i1 i2 i1' i2'
      have key : s = t ∧ mb_pc 10 (mb_bt o e (f e).toNat) = mb_pc 10 (mb_bt o e (g e).toNat) := by
        have d1 : mb_pc 10 (mb_bt o e (f e).toNat) < mb_pc 10 o - 1 := by omega
        have d2 : mb_pc 10 (mb_bt o e (g e).toNat) < mb_pc 10 o - 1 := by omega
        generalize mb_pc 10 (mb_bt o e (f e).toNat) = d at *
        generalize mb_pc 10 (mb_bt o e (g e).toNat) = d' at *
        have est : s = t := mt_div (r := s * (mb_pc 10 o - 1) + d) (R := mb_pc 10 o - 1) (by omega) (by rw [Nat.add_mul]; omega) (by omega) (by rw [Nat.add_mul]; omega)
        subst est
        exact ⟨rfl, by omega⟩
      obtain ⟨est, ed⟩ := key
      have efg : (f e).toNat = (g e).toNat := by
        rcases Nat.lt_trichotomy (f e).toNat (g e).toNat with c | c | c
        · have := mb_d_lt p.1 (by omega) p.2.1 q (by omega) c (by omega) g3; omega
        · exact c
        · have := mb_d_lt p.1 (by omega) p.2.1 q (by omega) c (by omega) g3'; omega
      have efg2 : f e = g e := by omega
      rw [← efg] at r g4'
      obtain ⟨-, j2⟩ := ih (e + 1) _ _ _ (by omega) g4 g4' r
      refine ⟨est, fun j j1 c => ?_⟩
      by_cases c1 : j = e
      · rw [c1]; exact efg2
      · by_cases c2 : (f e).toNat = j
        · have x1 := (hf e (by omega) (by omega)).2.2.1
          have x2 := (hg e (by omega) (by omega)).2.2.1
          have y : (j : Int) = f e := by omega
          rw [y, x1, efg2, x2]
        · refine j2 j j1 ?_
          rw [mb_rm_bit, c]
          simp [Ne.symm c1, c2]
    · rw [if_neg q, if_neg q] at r
      have q : o.testBit e = false := by simpa using q
      exact ih (e + 1) o s t (by omega) (mt_op_s h5 hf (by omega) p q) (mt_op_s h5 hg (by omega) p' q) r
theorem mt_op_0 {h : Int} {f : Int → Int} (h2 : 0 ≤ h) (h5 : h ≤ 5) (hf : mt_M h f) : mt_op h f 0 (2 ^ (2 * h).toNat - 1) := by
  have l : 2 ^ (2 * h).toNat ≤ 2 ^ 10 := Nat.pow_le_pow_right (by omega) (by omega)
  have l2 : 0 < 2 ^ (2 * h).toNat := Nat.two_pow_pos _
  refine ⟨by omega, by rw [Nat.pow_zero]; exact Nat.mod_one _, fun j j1 => ?_⟩
  rw [Nat.testBit_two_pow_sub_one]
  constructor
  · intro c
    have c : j < (2 * h).toNat := by simpa using c
    have g := hf j (by omega) (by omega)
    exact ⟨by omega, by omega, by omega⟩
  · rintro ⟨c1, c2, c3⟩
    simp; omega
theorem mt_num_lt {h : Int} {f : Int → Int} (h2 : 2 ≤ h) (h5 : h ≤ 5) (hf : mt_M h f) : mt_num h f < 945 := by
  have g := (mt_nm_B h5 hf (2 * h).toNat 0 _ 0 (by omega) (mt_op_0 (by omega) h5 hf)).2
  have e : (2 * h).toNat = 4 ∨ (2 * h).toNat = 6 ∨ (2 * h).toNat = 8 ∨ (2 * h).toNat = 10 := by omega
  unfold mt_num
  refine Nat.lt_of_lt_of_le g ?_
  rcases e with e | e | e | e <;> rw [e] <;> decide
theorem mt_num_inj {h : Int} {f g : Int → Int} (h2 : 2 ≤ h) (h5 : h ≤ 5) (hf : mt_M h f) (hg : mt_M h g) (q : mt_num h f = mt_num h g) : mt_eq h f g := by
  intro e e0 e1
  have r := (mt_nm_I h5 hf hg (2 * h).toNat 0 _ 0 0 (by omega) (mt_op_0 (by omega) h5 hf) (mt_op_0 (by omega) h5 hg) q).2 e.toNat (by omega) (by
    rw [Nat.testBit_two_pow_sub_one]; simp; omega)
  rw [show ((e.toNat : Nat) : Int) = e by omega] at r
  exact r
