/-! what a with b behind it makes, as one function: 0.. pairs, 10.. lengths, 20 loops, 21 longest, 22 total, 23 signs, 24 crosses, 25 turns -/
def mt_ln (a : Int → Int) (e : Int) : Int := a (10 + e)
def mt_mm (h : Int) (a b : Int → Int) : Nat → Int
  | 0 => 0
  | n + 1 => b_or (mt_mm h a b n) (mt_met h a b 10 (mt_s h n) 0)
def mt_r1 (h : Int) (a b : Int → Int) (m s t : Int) : Int × Int × Int := (b_or m (b_or (b_shl 1 (b t)) (b_shl 1 (a (b t + h) - h))), w64 (s + w64 (b (10 + t) + a (10 + (b t + h)))), a (b t + h) - h)
def mt_rg (h : Int) (a b : Int → Int) (r : Int) : Int × Int × Int := if (mt_r1 h a b 0 0 r).2.2 = r then mt_r1 h a b 0 0 r else mt_r1 h a b (mt_r1 h a b 0 0 r).1 (mt_r1 h a b 0 0 r).2.1 (mt_r1 h a b 0 0 r).2.2
def mt_rs (h : Int) (a b : Int → Int) : Nat → Int × Int × Int × Int
  | 0 => (mt_mm h a b (2 * h).toNat, w64 (a 20 + b 20), max (a 21) (b 21), w64 (a 22 + b 22))
  | n + 1 => if mb_t (mt_rs h a b n).1 n = 0 then (b_or (mt_rs h a b n).1 (mt_rg h a b n).1, w64 ((mt_rs h a b n).2.1 + 1), max (mt_rs h a b n).2.2.1 (mt_rg h a b n).2.1, w64 ((mt_rs h a b n).2.2.2 + (mt_rg h a b n).2.1)) else mt_rs h a b n
def mt_both (h : Int) (a b : Int → Int) (i : Int) : Int :=
  if i < 10 then mt_prod h a b i
  else if i < 20 then mt_sum h a b (mt_ln a) (mt_ln b) 10 (mt_s h (i - 10)) 0
  else if i = 20 then (mt_rs h a b h.toNat).2.1
  else if i = 21 then (mt_rs h a b h.toNat).2.2.1
  else if i = 22 then (mt_rs h a b h.toNat).2.2.2
  else if i = 23 then w64 (a 23 + min (b 23) (w64 (9000000000000000000 - a 23)))
  else if i = 24 then (if a 24 = 0 ∧ b 24 = 0 then 0 else 1)
  else (if a 25 = 0 ∧ b 25 = 0 then 0 else 1)
theorem mt_eq_both {h : Int} {a b : Int → Int} (h5 : h ≤ 5) : mt_eq h (mt_both h a b) (mt_prod h a b) := fun e h0 h1 => by
  unfold mt_both; rw [if_pos (by omega)]
theorem mt_both_M {h : Int} {a b : Int → Int} (h5 : h ≤ 5) (ha : mt_M h a) (hb : mt_M h b) : mt_M h (mt_both h a b) := mt_eq_M (mt_eq_both h5) (mt_prod_M h5 ha hb)
/-- m's rails are apart from the others: b and a lead from one that isn't in m to such a one -/
def mt_C (h : Int) (a b : Int → Int) (m : Int) : Prop := mb_m 5 m ∧ ∀ r, 0 ≤ r → r < h → mb_t m r = 0 → (b r < h ∧ mb_t m (b r) = 0) ∧ (h ≤ a (r + h) ∧ mb_t m (a (r + h) - h) = 0)
theorem mt_mm_bit {h : Int} {a b : Int → Int} (h5 : h ≤ 5) : ∀ n : Nat, mb_m 5 (mt_mm h a b n) ∧ ∀ r, 0 ≤ r → r < h → (mb_t (mt_mm h a b n) r = 1 ↔ ∃ e : Nat, e < n ∧ mt_hit h a b 10 (mt_s h e) r) := by
  intro n
  induction n with
  | zero =>
    refine ⟨⟨by unfold mt_mm; omega, by unfold mt_mm; omega⟩, fun r _ _ => ?_⟩
    unfold mt_mm
    rw [mb_0]
    exact ⟨fun c => absurd c (by omega), fun ⟨e, he, _⟩ => absurd he (by omega)⟩
  | succ n ih =>
    obtain ⟨i1, i2⟩ := ih
    obtain ⟨j1, j2⟩ := mt_met_bit (a := a) (b := b) h5 10 (mt_s h n) 0 ⟨by omega, by omega⟩
    obtain ⟨o1, o2⟩ := mb_or_m (k := 5) (by omega) i1 j1
    refine ⟨o1, fun r r0 r1 => ?_⟩
    show mb_t (b_or (mt_mm h a b n) (mt_met h a b 10 (mt_s h n) 0)) r = 1 ↔ _
    rw [o2 r r0 (by omega)]
    have j3 := j2 r r0 r1
    rw [mb_0] at j3
    have i3 := i2 r r0 r1
    constructor
    · intro c
      by_cases q : mb_t (mt_mm h a b n) r = 1
      · obtain ⟨e, he, hh⟩ := i3.1 q
        exact ⟨e, by omega, hh⟩
      · by_cases q2 : mb_t (mt_met h a b 10 (mt_s h n) 0) r = 1
        · rcases j3.1 q2 with z | z
          · exact absurd z (by omega)
          · exact ⟨n, by omega, z⟩
        · rw [if_neg (by simp [q, q2])] at c
          exact absurd c (by omega)
    · rintro ⟨e, he, hh⟩
      rcases Nat.lt_or_ge e n with l | l
      · rw [if_pos (Or.inl (i3.2 ⟨e, l, hh⟩))]
      · have : e = n := by omega
        subst this
        rw [if_pos (Or.inr (j3.2 (Or.inr hh)))]
theorem mt_mm_C {h : Int} {a b : Int → Int} (h2 : 0 ≤ h) (h5 : h ≤ 5) (ha : mt_M h a) (hb : mt_M h b) : mt_C h a b (mt_mm h a b (2 * h).toNat) := by
  obtain ⟨m1, m2⟩ := mt_mm_bit (a := a) (b := b) h5 (2 * h).toNat
  have key : ∀ r, 0 ≤ r → r < h → (mb_t (mt_mm h a b (2 * h).toNat) r = 0 ↔ mt_U h a b r) := by
    intro r r0 r1
    have g := m2 r r0 r1
    have z := mb_t_01 (mt_mm h a b (2 * h).toNat) r
    constructor
    · intro c e h0 h1 hit
      have : mb_t (mt_mm h a b (2 * h).toNat) r = 1 := g.2 ⟨e.toNat, by omega, by rw [show ((e.toNat : Nat) : Int) = e by omega]; exact hit⟩
      omega
    · intro u
      rcases z with z | z
      · exact z
      · obtain ⟨e, he, hit⟩ := g.1 z
        exact absurd hit (u e (by omega) (by omega))
  refine ⟨m1, fun r r0 r1 c => ?_⟩
  have u := (key r r0 r1).1 c
  constructor
  · have e1 : mt_rl h (2 * h + r) = r := by unfold mt_rl; rw [if_neg (by omega)]; omega
    have e2 : mt_P h a b (2 * h + r) = 2 * h + b r := by unfold mt_P; rw [if_neg (by omega), show 2 * h + r - 2 * h = r by omega]
    obtain ⟨g1, g2⟩ := mt_U_cl (y := 2 * h + r) h5 ha hb ⟨by omega, by omega⟩ (by rw [e1]; exact u)
    rw [e2] at g1 g2
    have hb1 := hb r r0 (by omega)
    have l : b r < h := by have := g1.2; omega
    have e3 : mt_rl h (2 * h + b r) = b r := by unfold mt_rl; rw [if_neg (by omega)]; omega
    rw [e3] at g2
    exact ⟨l, (key _ hb1.1 l).2 g2⟩
  · have e1 : mt_rl h (r + h) = r := by unfold mt_rl; rw [if_pos (by omega)]; omega
    have e2 : mt_P h a b (r + h) = a (r + h) := by unfold mt_P; rw [if_pos (by omega)]
    obtain ⟨g1, g2⟩ := mt_U_cl (y := r + h) h5 ha hb ⟨by omega, by omega⟩ (by rw [e1]; exact u)
    rw [e2] at g1 g2
    have ha1 := ha (r + h) (by omega) (by omega)
    have e3 : mt_rl h (a (r + h)) = a (r + h) - h := by unfold mt_rl; rw [if_pos (by omega)]
    rw [e3] at g2
    have := g1.1
    exact ⟨by omega, (key _ (by omega) (by omega)).2 g2⟩
theorem mt_six {a b c d e f : Int} (a0 : 0 ≤ a ∧ a < 5) (b0 : 0 ≤ b ∧ b < 5) (c0 : 0 ≤ c ∧ c < 5) (d0 : 0 ≤ d ∧ d < 5) (e0 : 0 ≤ e ∧ e < 5) (f0 : 0 ≤ f ∧ f < 5) (h1 : b ≠ a) (h2 : c ≠ a) (h3 : c ≠ b) (h4 : d ≠ a) (h5 : d ≠ b) (h6 : d ≠ c) (h7 : e ≠ a) (h8 : e ≠ b) (h9 : e ≠ c) (h10 : e ≠ d) (h11 : f ≠ a) (h12 : f ≠ b) (h13 : f ≠ c) (h14 : f ≠ d) (h15 : f ≠ e) : False := by
  obtain ⟨i, j, hij, hj, q⟩ := mt_ph 5 (fun i => if i = 0 then a else if i = 1 then b else if i = 2 then c else if i = 3 then d else if i = 4 then e else f) (fun i hi => by
    show 0 ≤ (if i = 0 then a else if i = 1 then b else if i = 2 then c else if i = 3 then d else if i = 4 then e else f) ∧ (if i = 0 then a else if i = 1 then b else if i = 2 then c else if i = 3 then d else if i = 4 then e else f) < 5
    split
    · exact a0
    split
    · exact b0
    split
    · exact c0
    split
    · exact d0
    split
    · exact e0
    · exact f0)
  have hj2 : j = 1 ∨ j = 2 ∨ j = 3 ∨ j = 4 ∨ j = 5 := by omega
  have hi2 : i = 0 ∨ i = 1 ∨ i = 2 ∨ i = 3 ∨ i = 4 := by omega
  rcases hj2 with z | z | z | z | z <;> subst z <;> rcases hi2 with y | y | y | y | y <;> subst y <;> first | exact absurd hij (by decide) | exact h1 q.symm | exact h2 q.symm | exact h3 q.symm | exact h4 q.symm | exact h5 q.symm | exact h6 q.symm | exact h7 q.symm | exact h8 q.symm | exact h9 q.symm | exact h10 q.symm | exact h11 q.symm | exact h12 q.symm | exact h13 q.symm | exact h14 q.symm | exact h15 q.symm
/-- the ring of a rail that isn't in m: one round, or two -/
theorem mt_rg_C {h : Int} {a b : Int → Int} (h5 : h ≤ 5) (ha : mt_M h a) (hb : mt_M h b) {m r : Int} (hm : mt_C h a b m) (r0 : 0 ≤ r) (r1 : r < h) (hr : mb_t m r = 0) :
    ∃ o t, b r = o ∧ a (o + h) = t + h ∧ 0 ≤ o ∧ o < h ∧ 0 ≤ t ∧ t < h ∧ o ≠ r ∧ t ≠ o ∧ b o = r ∧ a (t + h) = o + h ∧ mb_t m o = 0 ∧ mb_t m t = 0 ∧ (t = r ∨ (t ≠ r ∧ ∃ o2, b t = o2 ∧ a (o2 + h) = r + h ∧ 0 ≤ o2 ∧ o2 < h ∧ o2 ≠ r ∧ o2 ≠ o ∧ o2 ≠ t ∧ b o2 = t ∧ a (r + h) = o2 + h ∧ mb_t m o2 = 0)) := by
  have st : ∀ r, 0 ≤ r → r < h → mb_t m r = 0 → ∃ o t, b r = o ∧ a (o + h) = t + h ∧ 0 ≤ o ∧ o < h ∧ 0 ≤ t ∧ t < h ∧ o ≠ r ∧ t ≠ o ∧ b o = r ∧ a (t + h) = o + h ∧ mb_t m o = 0 ∧ mb_t m t = 0 := by
    intro r r0 r1 hr
    obtain ⟨⟨c1, c2⟩, -⟩ := hm.2 r r0 r1 hr
    obtain ⟨b1, b2, b3, b4⟩ := hb r r0 (by omega)
    obtain ⟨-, d1, d2⟩ := hm.2 (b r) b1 c1 c2
    obtain ⟨a1, a2, a3, a4⟩ := ha (b r + h) (by omega) (by omega)
    refine ⟨b r, a (b r + h) - h, rfl, by omega, b1, c1, by omega, by omega, b4, by omega, b3, ?_, c2, d2⟩
    rw [show a (b r + h) - h + h = a (b r + h) by omega, a3]
  obtain ⟨o, t, e1, e2, o0, o1, t0, t1, n1, n2, e3, e4, z1, z2⟩ := st r r0 r1 hr
  refine ⟨o, t, e1, e2, o0, o1, t0, t1, n1, n2, e3, e4, z1, z2, ?_⟩
  by_cases q : t = r
  · exact Or.inl q
  right
  refine ⟨q, ?_⟩
  obtain ⟨o2, t2, f1, f2, p0, p1, q0, q1, m1, m2, f3, f4, y1, y2⟩ := st t t0 t1 z2
  have k1 : o2 ≠ r := fun c => by rw [c, e1] at f3; exact n2 f3.symm
  have k2 : o2 ≠ o := fun c => by rw [c, e3] at f3; exact q f3.symm
  have k3 : t2 ≠ t := fun c => by rw [c, e4] at f4; exact k2 (by omega)
  have k4 : t2 ≠ o := fun c => by
    have := f4
    rw [c, e2] at this
    omega
  have k5 : t2 = r := by
    rcases Classical.em (t2 = r) with c | c
    · exact c
    exfalso
    obtain ⟨o3, t3, g1, g2, u0, u1, v0, v1, w1, w2, g3, g4, x1, x2⟩ := st t2 q0 q1 y2
    have l1 : o3 ≠ r := fun c => by rw [c, e1] at g3; exact k4 g3.symm
    have l2 : o3 ≠ o := fun d => by rw [d, e3] at g3; exact c g3.symm
    have l3 : o3 ≠ t := fun d => by rw [d, f1] at g3; exact m2 g3.symm
    have l4 : o3 ≠ o2 := fun d => by rw [d, f3] at g3; exact k3 g3.symm
    exact mt_six (a := r) (b := o) (c := t) (d := o2) (e := t2) (f := o3) ⟨r0, by omega⟩ ⟨o0, by omega⟩ ⟨t0, by omega⟩ ⟨p0, by omega⟩ ⟨q0, by omega⟩ ⟨u0, by omega⟩ n1 q n2 k1 k2 m1 c k4 k3 m2 l1 l2 l3 l4 w1
  subst k5
  exact ⟨o2, f1, f2, p0, p1, k1, k2, m1, f3, f4, y1⟩
theorem mt_rg_e {h : Int} {a b : Int → Int} (h5 : h ≤ 5) (ha : mt_M h a) (hb : mt_M h b) {m r : Int} (hm : mt_C h a b m) (r0 : 0 ≤ r) (r1 : r < h) (hr : mb_t m r = 0) : mb_m 5 (mt_rg h a b r).1 ∧ mt_C h a b (b_or m (mt_rg h a b r).1) ∧ (∀ j, 0 ≤ j → j < h → (mb_t (b_or m (mt_rg h a b r).1) j = 1 ↔ mb_t m j = 1 ∨ mb_t (mt_rg h a b r).1 j = 1)) := by
  obtain ⟨o, t, e1, e2, o0, o1, t0, t1, n1, n2, e3, e4, z1, z2, c⟩ := mt_rg_C h5 ha hb hm r0 r1 hr
  have at1 : a (o + h) - h = t := by omega
  have sh : ∀ r : Int, 0 ≤ r → r < h → mb_m 5 (b_shl 1 r) ∧ ∀ j : Int, 0 ≤ j → j < 32 → mb_t (b_shl 1 r) j = if j = r then 1 else 0 := fun r r0 r1 => mb_shl_m (k := 5) (by omega) r0 (by omega)
  obtain ⟨so, so2⟩ := sh o o0 o1
  obtain ⟨st, st2⟩ := sh t t0 t1
  obtain ⟨s2, s22⟩ := mb_or_m (k := 5) (by omega) so st
  obtain ⟨s3, s32⟩ := mb_or_m (k := 5) (a := 0) (by omega) ⟨by omega, by omega⟩ s2
  have zero : ∀ j, mb_t 0 j = 0 := mb_0
  rcases c with c | ⟨nc, o2, f1, f2, p0, p1, k1, k2, k3, f3, f4, y1⟩
  · have er : (mt_rg h a b r).1 = b_or 0 (b_or (b_shl 1 o) (b_shl 1 t)) := by
      unfold mt_rg mt_r1
      rw [e1, at1, if_pos c]
    rw [er]
    have hb1 : ∀ j, 0 ≤ j → j < h → (mb_t (b_or 0 (b_or (b_shl 1 o) (b_shl 1 t))) j = 1 ↔ j = o ∨ j = t) := by
      intro j j0 j1
      rw [s32 j j0 (by omega), s22 j j0 (by omega), so2 j j0 (by omega), st2 j j0 (by omega), zero]
      by_cases q1 : j = o <;> by_cases q2 : j = t <;> simp [q1, q2]
    obtain ⟨m1, m2⟩ := mb_or_m (k := 5) (by omega) hm.1 s3
    have key : ∀ j, 0 ≤ j → j < h → (mb_t (b_or m (b_or 0 (b_or (b_shl 1 o) (b_shl 1 t)))) j = 1 ↔ mb_t m j = 1 ∨ mb_t (b_or 0 (b_or (b_shl 1 o) (b_shl 1 t))) j = 1) := by
      intro j j0 j1
      rw [m2 j j0 (by omega)]
      split
      · rename_i q; exact ⟨fun _ => q, fun _ => rfl⟩
      · rename_i q; exact ⟨fun d => absurd d (by omega), fun d => absurd d q⟩
    refine ⟨s3, ⟨m1, fun j j0 j1 d => ?_⟩, key⟩
    have nk : ∀ j, 0 ≤ j → j < h → mb_t m j = 0 → j ≠ o → j ≠ t → mb_t (b_or m (b_or 0 (b_or (b_shl 1 o) (b_shl 1 t)))) j = 0 := by
      intro j j0 j1 d d1 d2
      rcases mb_t_01 (b_or m (b_or 0 (b_or (b_shl 1 o) (b_shl 1 t)))) j with z | z
      · exact z
      · rcases (key j j0 j1).1 z with z | z
        · omega
        · rcases (hb1 j j0 j1).1 z with z | z
          · exact absurd z d1
          · exact absurd z d2
    have nj : ¬ (mb_t m j = 1 ∨ mb_t (b_or 0 (b_or (b_shl 1 o) (b_shl 1 t))) j = 1) := fun q => by have := (key j j0 j1).2 q; omega
    have d0 : mb_t m j = 0 := by rcases mb_t_01 m j with z | z; exact z; exact absurd (Or.inl z) nj
    have d1 : j ≠ o := fun q => nj (Or.inr ((hb1 j j0 j1).2 (Or.inl q)))
    have d2 : j ≠ t := fun q => nj (Or.inr ((hb1 j j0 j1).2 (Or.inr q)))
    obtain ⟨⟨c1, c2⟩, c3, c4⟩ := hm.2 j j0 j1 d0
    obtain ⟨b1, b2, b3, b4⟩ := hb j j0 (by omega)
    obtain ⟨a1, a2, a3, a4⟩ := ha (j + h) (by omega) (by omega)
    refine ⟨⟨c1, nk _ b1 c1 c2 (fun q => ?_) (fun q => ?_)⟩, c3, nk _ (by omega) (by omega) c4 (fun q => ?_) (fun q => ?_)⟩
    · rw [q, e3] at b3; exact d2 (by omega)
    · rw [q, c, e1] at b3; exact d1 b3.symm
    · rw [show a (j + h) = o + h by omega, e2] at a3; exact d2 (by omega)
    · rw [show a (j + h) = t + h by omega, e4] at a3; exact d1 (by omega)
  · have at2 : a (o2 + h) - h = r := by omega
    have er : (mt_rg h a b r).1 = b_or (b_or 0 (b_or (b_shl 1 o) (b_shl 1 t))) (b_or (b_shl 1 o2) (b_shl 1 r)) := by
      unfold mt_rg mt_r1
      rw [e1, at1, if_neg nc, f1, at2]
    obtain ⟨so', so2'⟩ := sh o2 p0 p1
    obtain ⟨st', st2'⟩ := sh r r0 r1
    obtain ⟨s2', s22'⟩ := mb_or_m (k := 5) (by omega) so' st'
    obtain ⟨s3', s32'⟩ := mb_or_m (k := 5) (by omega) s3 s2'
    rw [er]
    have hb1 : ∀ j, 0 ≤ j → j < h → (mb_t (b_or (b_or 0 (b_or (b_shl 1 o) (b_shl 1 t))) (b_or (b_shl 1 o2) (b_shl 1 r))) j = 1 ↔ j = o ∨ j = t ∨ j = o2 ∨ j = r) := by
      intro j j0 j1
      rw [s32' j j0 (by omega), s22' j j0 (by omega), so2' j j0 (by omega), st2' j j0 (by omega), s32 j j0 (by omega), s22 j j0 (by omega), so2 j j0 (by omega), st2 j j0 (by omega), zero]
      by_cases q1 : j = o <;> by_cases q2 : j = t <;> by_cases q3 : j = o2 <;> by_cases q4 : j = r <;> simp [q1, q2, q3, q4]
    obtain ⟨m1, m2⟩ := mb_or_m (k := 5) (by omega) hm.1 s3'
    generalize b_or (b_or 0 (b_or (b_shl 1 o) (b_shl 1 t))) (b_or (b_shl 1 o2) (b_shl 1 r)) = R at hb1 s3' m1 m2
    have key : ∀ j, 0 ≤ j → j < h → (mb_t (b_or m R) j = 1 ↔ mb_t m j = 1 ∨ mb_t R j = 1) := by
      intro j j0 j1
      rw [m2 j j0 (by omega)]
      split
      · rename_i q; exact ⟨fun _ => q, fun _ => rfl⟩
      · rename_i q; exact ⟨fun d => absurd d (by omega), fun d => absurd d q⟩
    refine ⟨s3', ⟨m1, fun j j0 j1 d => ?_⟩, key⟩
    have nk : ∀ j, 0 ≤ j → j < h → mb_t m j = 0 → j ≠ o → j ≠ t → j ≠ o2 → j ≠ r → mb_t (b_or m R) j = 0 := by
      intro j j0 j1 d d1 d2 d3 d4
      rcases mb_t_01 (b_or m R) j with z | z
      · exact z
      · rcases (key j j0 j1).1 z with z | z
        · omega
        · rcases (hb1 j j0 j1).1 z with z | z | z | z
          · exact absurd z d1
          · exact absurd z d2
          · exact absurd z d3
          · exact absurd z d4
    have nj : ¬ (mb_t m j = 1 ∨ mb_t R j = 1) := fun q => by have := (key j j0 j1).2 q; omega
    have d0 : mb_t m j = 0 := by rcases mb_t_01 m j with z | z; exact z; exact absurd (Or.inl z) nj
    have d1 : j ≠ o := fun q => nj (Or.inr ((hb1 j j0 j1).2 (Or.inl q)))
    have d2 : j ≠ t := fun q => nj (Or.inr ((hb1 j j0 j1).2 (Or.inr (Or.inl q))))
    have d3 : j ≠ o2 := fun q => nj (Or.inr ((hb1 j j0 j1).2 (Or.inr (Or.inr (Or.inl q)))))
    have d4 : j ≠ r := fun q => nj (Or.inr ((hb1 j j0 j1).2 (Or.inr (Or.inr (Or.inr q)))))
    obtain ⟨⟨c1, c2⟩, c3, c4⟩ := hm.2 j j0 j1 d0
    obtain ⟨b1, b2, b3, b4⟩ := hb j j0 (by omega)
    obtain ⟨a1, a2, a3, a4⟩ := ha (j + h) (by omega) (by omega)
    refine ⟨⟨c1, nk _ b1 c1 c2 (fun q => ?_) (fun q => ?_) (fun q => ?_) (fun q => ?_)⟩, c3, nk _ (by omega) (by omega) c4 (fun q => ?_) (fun q => ?_) (fun q => ?_) (fun q => ?_)⟩
    · rw [q, e3] at b3; exact d4 (by omega)
    · rw [q, f1] at b3; exact d3 b3.symm
    · rw [q, f3] at b3; exact d2 b3.symm
    · rw [q, e1] at b3; exact d1 b3.symm
    · rw [show a (j + h) = o + h by omega, e2] at a3; exact d2 (by omega)
    · rw [show a (j + h) = t + h by omega, e4] at a3; exact d1 (by omega)
    · rw [show a (j + h) = o2 + h by omega, f2] at a3; exact d4 (by omega)
    · rw [show a (j + h) = r + h by omega, f4] at a3; exact d3 (by omega)
theorem mt_rs_C {h : Int} {a b : Int → Int} (h2 : 0 ≤ h) (h5 : h ≤ 5) (ha : mt_M h a) (hb : mt_M h b) : ∀ n : Nat, (n : Int) ≤ h → mt_C h a b (mt_rs h a b n).1 := by
  intro n
  induction n with
  | zero => intro _; exact mt_mm_C h2 h5 ha hb
  | succ n ih =>
    intro hn
    have i := ih (by omega)
    unfold mt_rs
    by_cases q : mb_t (mt_rs h a b n).1 n = 0
    · rw [if_pos q]; exact (mt_rg_e h5 ha hb i (by omega) (by omega) q).2.1
    · rw [if_neg q]; exact i
