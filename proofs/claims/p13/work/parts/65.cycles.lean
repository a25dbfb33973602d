/-! closing: the loops of two matchings laid on each other (pure) -/
def mt_z (α β : Int → Int) (e : Int) : Nat → Int
  | 0 => e
  | i + 1 => if i % 2 = 0 then α (mt_z α β e i) else β (mt_z α β e i)
theorem mt_z_r {h : Int} {α β : Int → Int} {e : Int} (ha : mt_M h α) (hb : mt_M h β) (e0 : 0 ≤ e) (e1 : e < 2 * h) : ∀ i, 0 ≤ mt_z α β e i ∧ mt_z α β e i < 2 * h := by
  intro i
  induction i with
  | zero => exact ⟨e0, e1⟩
  | succ i ih =>
    unfold mt_z
    split
    · have := ha _ ih.1 ih.2; exact ⟨this.1, this.2.1⟩
    · have := hb _ ih.1 ih.2; exact ⟨this.1, this.2.1⟩
theorem mt_z_e {α β : Int → Int} {e : Int} {i : Nat} (q : i % 2 = 0) : mt_z α β e (i + 1) = α (mt_z α β e i) := by
  conv => lhs; unfold mt_z
  exact if_pos q
theorem mt_z_o {α β : Int → Int} {e : Int} {i : Nat} (q : i % 2 = 1) : mt_z α β e (i + 1) = β (mt_z α β e i) := by
  conv => lhs; unfold mt_z
  exact if_neg (by omega)
theorem mt_z_be {h : Int} {α β : Int → Int} {e : Int} (ha : mt_M h α) (hb : mt_M h β) (e0 : 0 ≤ e) (e1 : e < 2 * h) {i : Nat} (q : i % 2 = 0) : α (mt_z α β e (i + 1)) = mt_z α β e i := by
  have r := mt_z_r ha hb e0 e1 i
  rw [mt_z_e q]; exact (ha _ r.1 r.2).2.2.1
theorem mt_z_bo {h : Int} {α β : Int → Int} {e : Int} (ha : mt_M h α) (hb : mt_M h β) (e0 : 0 ≤ e) (e1 : e < 2 * h) {i : Nat} (q : i % 2 = 1) : β (mt_z α β e (i + 1)) = mt_z α β e i := by
  have r := mt_z_r ha hb e0 e1 i
  rw [mt_z_o q]; exact (hb _ r.1 r.2).2.2.1
theorem mt_z_par {h : Int} {α β : Int → Int} {e : Int} (ha : mt_M h α) (hb : mt_M h β) (e0 : 0 ≤ e) (e1 : e < 2 * h) : ∀ (d a : Nat), d % 2 = 1 → mt_z α β e a ≠ mt_z α β e (a + d) := by
  intro d
  induction d using Nat.strongRecOn with
  | ind d ih =>
    intro a hd q
    have r := mt_z_r ha hb e0 e1
    by_cases d1 : d = 1
    · subst d1
      rcases Nat.mod_two_eq_zero_or_one a with p | p
      · rw [mt_z_e p] at q; exact (ha _ (r a).1 (r a).2).2.2.2 q.symm
      · rw [mt_z_o p] at q; exact (hb _ (r a).1 (r a).2).2.2.2 q.symm
    · refine ih (d - 2) (by omega) (a + 1) (by omega) ?_
      obtain ⟨c, hc⟩ : ∃ c, a + d = c + 1 := ⟨a + d - 1, by omega⟩
      rw [hc] at q
      rw [show a + 1 + (d - 2) = c by omega]
      rcases Nat.mod_two_eq_zero_or_one a with p | p
      · rw [mt_z_e p, q, mt_z_be ha hb e0 e1 (by omega)]
      · rw [mt_z_o p, q, mt_z_bo ha hb e0 e1 (by omega)]
theorem mt_z_down {h : Int} {α β : Int → Int} {e : Int} (ha : mt_M h α) (hb : mt_M h β) (e0 : 0 ≤ e) (e1 : e < 2 * h) : ∀ (a d : Nat), d % 2 = 0 → mt_z α β e a = mt_z α β e (a + d) → mt_z α β e d = e := by
  intro a
  induction a with
  | zero => intro d hd q; rw [Nat.zero_add] at q; exact q.symm
  | succ a ih =>
    intro d hd q
    refine ih d hd ?_
    rw [show a + 1 + d = (a + d) + 1 by omega] at q
    rcases Nat.mod_two_eq_zero_or_one a with p | p
    · rw [← mt_z_be ha hb e0 e1 p, q, mt_z_be ha hb e0 e1 (by omega)]
    · rw [← mt_z_bo ha hb e0 e1 p, q, mt_z_bo ha hb e0 e1 (by omega)]
theorem mt_least {P : Nat → Prop} : ∀ n, P n → ∃ m, m ≤ n ∧ P m ∧ ∀ k, k < m → ¬ P k := by
  intro n
  induction n using Nat.strongRecOn with
  | ind n ih =>
    intro hn
    by_cases q : ∃ k, k < n ∧ P k
    · obtain ⟨k, k1, k2⟩ := q
      obtain ⟨m, m1, m2, m3⟩ := ih k k1 k2
      exact ⟨m, by omega, m2, m3⟩
    · exact ⟨n, Nat.le_refl n, hn, fun k hk hp => q ⟨k, hk, hp⟩⟩
theorem mt_z_cyc {h : Int} {α β : Int → Int} {e : Int} (h5 : h ≤ 5) (ha : mt_M h α) (hb : mt_M h β) (e0 : 0 ≤ e) (e1 : e < 2 * h) : ∃ n, 1 ≤ n ∧ n ≤ 10 ∧ mt_z α β e (2 * n) = e ∧ ∀ i j, i < j → j < 2 * n → mt_z α β e i ≠ mt_z α β e j := by
  obtain ⟨n, n1, n2, n3⟩ := mt_ring (g := fun x => β (α x)) (I := fun x => 0 ≤ x ∧ x < 2 * h) (m := (2 * h).toNat) (s := e) ⟨e0, e1⟩
    (fun a ra => by
      have g := ha a ra.1 ra.2
      have g2 := hb _ g.1 g.2.1
      exact ⟨g2.1, g2.2.1⟩)
    (fun a ra => ⟨ra.1, by omega⟩)
    (fun a b ra rb q => by
      have g := ha a ra.1 ra.2
      have g' := ha b rb.1 rb.2
      have k := hb _ g.1 g.2.1
      have k' := hb _ g'.1 g'.2.1
      have q : β (α a) = β (α b) := q
      rw [← g.2.2.1, ← k.2.2.1, q, k'.2.2.1, g'.2.2.1])
  have it : ∀ n : Nat, Nat.rec (motive := fun _ => Int) e (fun _ y => β (α y)) n = mt_z α β e (2 * n) := by
    intro n
    induction n with
    | zero => rfl
    | succ n ih =>
      show β (α (Nat.rec (motive := fun _ => Int) e (fun _ y => β (α y)) n)) = _
      rw [ih, show 2 * (n + 1) = (2 * n + 1) + 1 by omega, mt_z_o (by omega), mt_z_e (by omega)]
  have n3 : mt_z α β e (2 * n) = e := by rw [← it]; exact n3
  obtain ⟨m, m1, ⟨m2, m3⟩, m4⟩ := mt_least (P := fun n => 1 ≤ n ∧ mt_z α β e (2 * n) = e) n ⟨n1, n3⟩
  refine ⟨m, m2, by omega, m3, fun i j hij hj q => ?_⟩
  rcases Nat.mod_two_eq_zero_or_one (j - i) with p | p
  · have := mt_z_down ha hb e0 e1 i (j - i) p (by rw [show i + (j - i) = j by omega]; exact q)
    exact m4 ((j - i) / 2) (by omega) ⟨by omega, by rw [show 2 * ((j - i) / 2) = j - i by omega]; exact this⟩
  · exact mt_z_par ha hb e0 e1 (j - i) i p (by rw [show i + (j - i) = j by omega]; exact q)
/-- the loop of e: which ends -/
def mt_lf (α β : Int → Int) (e : Int) : Nat → Int → Int → Int
  | 0, _, m => m
  | F + 1, a, m => if mb_t m e = 0 then mt_lf α β e F (β (α a)) (b_or m (b_or (b_shl 1 (α a)) (b_shl 1 (β (α a))))) else m
def mt_lm (α β : Int → Int) (e : Int) : Int := mt_lf α β e 11 e 0
theorem mt_lm_bit {h : Int} {α β : Int → Int} {e : Int} {n : Nat} (h5 : h ≤ 5) (ha : mt_M h α) (hb : mt_M h β) (e0 : 0 ≤ e) (e1 : e < 2 * h) (n1 : 1 ≤ n) (n2 : n ≤ 10) (n3 : mt_z α β e (2 * n) = e) (n4 : ∀ i j, i < j → j < 2 * n → mt_z α β e i ≠ mt_z α β e j) : mb_m 10 (mt_lm α β e) ∧ ∀ j, 0 ≤ j → j < 2 * h → (mb_t (mt_lm α β e) j = 1 ↔ ∃ i, i < 2 * n ∧ mt_z α β e i = j) := by
  have r := mt_z_r ha hb e0 e1
  have L : ∀ (F k : Nat) (m : Int), k ≤ n → F + k = 11 → mb_m 10 m → (∀ j, 0 ≤ j → j < 2 * h → (mb_t m j = 1 ↔ ∃ i, 1 ≤ i ∧ i ≤ 2 * k ∧ mt_z α β e i = j)) → mb_m 10 (mt_lf α β e F (mt_z α β e (2 * k)) m) ∧ ∀ j, 0 ≤ j → j < 2 * h → (mb_t (mt_lf α β e F (mt_z α β e (2 * k)) m) j = 1 ↔ ∃ i, i < 2 * n ∧ mt_z α β e i = j) := by
    intro F
    induction F with
    | zero => intro k m hk hF; omega
    | succ F ih =>
      intro k m hk hF hm hj
      unfold mt_lf
      by_cases q : k = n
      · subst q
        have b1 : mb_t m e = 1 := (hj e e0 e1).2 ⟨2 * k, by omega, by omega, n3⟩
        rw [if_neg (by omega)]
        refine ⟨hm, fun j j0 j1 => ?_⟩
        rw [hj j j0 j1]
        constructor
        · rintro ⟨i, i1, i2, i3⟩
          by_cases z : i = 2 * k
          · subst z; exact ⟨0, by omega, by rw [← i3, n3]; rfl⟩
          · exact ⟨i, by omega, i3⟩
        · rintro ⟨i, i2, i3⟩
          by_cases z : i = 0
          · subst z; exact ⟨2 * k, by omega, by omega, by rw [n3, ← i3]; rfl⟩
          · exact ⟨i, by omega, by omega, i3⟩
      · have b0 : mb_t m e = 0 := by
          rcases mb_t_01 m e with y | y
          · exact y
          · obtain ⟨i, i1, i2, i3⟩ := (hj e e0 e1).1 y
            exact absurd i3.symm (n4 0 i (by omega) (by omega))
        rw [if_pos b0]
        have z1 : α (mt_z α β e (2 * k)) = mt_z α β e (2 * k + 1) := (mt_z_e (by omega)).symm
        have z2 : β (mt_z α β e (2 * k + 1)) = mt_z α β e (2 * (k + 1)) := (mt_z_o (i := 2 * k + 1) (by omega)).symm
        rw [z1, z2]
        obtain ⟨a1, a2⟩ := mb_shl_m (k := 10) (by omega) (r (2 * k + 1)).1 (by have := (r (2 * k + 1)).2; omega)
        obtain ⟨c1, c2⟩ := mb_shl_m (k := 10) (by omega) (r (2 * (k + 1))).1 (by have := (r (2 * (k + 1))).2; omega)
        obtain ⟨d1, d2⟩ := mb_or_m (k := 10) (by omega) a1 c1
        obtain ⟨f1, f2⟩ := mb_or_m (k := 10) (by omega) hm d1
        refine ih (k + 1) _ (by omega) (by omega) f1 (fun j j0 j1 => ?_)
        rw [f2 j j0 (by omega), d2 j j0 (by omega), a2 j j0 (by omega), c2 j j0 (by omega)]
        constructor
        · intro c
          by_cases y : mb_t m j = 1
          · obtain ⟨i, i1, i2, i3⟩ := (hj j j0 j1).1 y
            exact ⟨i, i1, by omega, i3⟩
          · by_cases x1 : j = mt_z α β e (2 * k + 1)
            · exact ⟨2 * k + 1, by omega, by omega, x1.symm⟩
            · by_cases x2 : j = mt_z α β e (2 * (k + 1))
              · exact ⟨2 * (k + 1), by omega, by omega, x2.symm⟩
              · simp [y, x1, x2] at c
        · rintro ⟨i, i1, i2, i3⟩
          by_cases x1 : i = 2 * k + 1
          · subst x1; simp [← i3]
          · by_cases x2 : i = 2 * (k + 1)
            · subst x2; simp [← i3]
            · have y := (hj j j0 j1).2 ⟨i, i1, by omega, i3⟩
              simp [y]
  have := L 11 0 0 (by omega) (by omega) ⟨by omega, by omega⟩ (fun j j0 j1 => by
    rw [mb_0]
    exact ⟨fun c => absurd c (by omega), fun ⟨i, i1, i2, _⟩ => absurd i2 (by omega)⟩)
  exact this
/-- how many loops -/
def mt_lbs (α β : Int → Int) : Nat → Int × Int
  | 0 => (0, 0)
  | n + 1 => if mb_t (mt_lbs α β n).1 n = 0 then (b_or (mt_lbs α β n).1 (mt_lm α β n), (mt_lbs α β n).2 + 1) else mt_lbs α β n
def mt_cl (h : Int) (α β : Int → Int) : Int := (mt_lbs α β (2 * h).toNat).2
theorem mt_lbs_C {h : Int} {α β : Int → Int} (h5 : h ≤ 5) (ha : mt_M h α) (hb : mt_M h β) : ∀ n : Nat, (n : Int) ≤ 2 * h → mb_m 10 (mt_lbs α β n).1 ∧ 0 ≤ (mt_lbs α β n).2 ∧ (mt_lbs α β n).2 ≤ n ∧ ∀ j, 0 ≤ j → j < 2 * h → mb_t (mt_lbs α β n).1 j = 0 → mb_t (mt_lbs α β n).1 (α j) = 0 ∧ mb_t (mt_lbs α β n).1 (β j) = 0 := by
  intro n
  induction n with
  | zero => intro _; exact ⟨⟨by show (0:Int) ≤ 0; omega, by show (0:Int) < _; omega⟩, by show (0:Int) ≤ 0; omega, by show (0:Int) ≤ _; omega, fun j _ _ _ => ⟨mb_0 _, mb_0 _⟩⟩
  | succ n ih =>
    intro hn
    obtain ⟨i1, i2, i3, i4⟩ := ih (by omega)
    by_cases q : mb_t (mt_lbs α β n).1 n = 0
    · have e : mt_lbs α β (n + 1) = (b_or (mt_lbs α β n).1 (mt_lm α β n), (mt_lbs α β n).2 + 1) := by
        conv => lhs; unfold mt_lbs
        exact if_pos q
      obtain ⟨m, m1, m2, m3, m4⟩ := mt_z_cyc (e := n) h5 ha hb (by omega) (by omega)
      obtain ⟨l1, l2⟩ := mt_lm_bit (e := n) h5 ha hb (by omega) (by omega) m1 m2 m3 m4
      obtain ⟨o1, o2⟩ := mb_or_m (k := 10) (by omega) i1 l1
      rw [e]
      refine ⟨o1, by show (0:Int) ≤ (mt_lbs α β n).2 + 1; omega, by show (mt_lbs α β n).2 + 1 ≤ _; omega, fun j j0 j1 hz => ?_⟩
      have hz : mb_t (b_or (mt_lbs α β n).1 (mt_lm α β n)) j = 0 := hz
      show mb_t (b_or (mt_lbs α β n).1 (mt_lm α β n)) (α j) = 0 ∧ mb_t (b_or (mt_lbs α β n).1 (mt_lm α β n)) (β j) = 0
      rw [o2 j j0 (by omega)] at hz
      have nz : ¬ (mb_t (mt_lbs α β n).1 j = 1 ∨ mb_t (mt_lm α β n) j = 1) := fun c => by rw [if_pos c] at hz; omega
      have k1 : mb_t (mt_lbs α β n).1 j = 0 := by
        rcases mb_t_01 (mt_lbs α β n).1 j with y | y
        · exact y
        · exact absurd (Or.inl y) nz
      have k2 : ¬ ∃ i, i < 2 * m ∧ mt_z α β n i = j := fun c => nz (Or.inr ((l2 j j0 j1).2 c))
      obtain ⟨p1, p2⟩ := i4 j j0 j1 k1
      have fin : ∀ x, 0 ≤ x → x < 2 * h → mb_t (mt_lbs α β n).1 x = 0 → (¬ ∃ i, i < 2 * m ∧ mt_z α β n i = x) → mb_t (b_or (mt_lbs α β n).1 (mt_lm α β n)) x = 0 := by
        intro x x0 x1 y1 y2
        rw [o2 x x0 (by omega), if_neg]
        rintro (c | c)
        · omega
        · exact y2 ((l2 x x0 x1).1 c)
      have ra := ha j j0 j1
      have rb := hb j j0 j1
      refine ⟨fin _ ra.1 ra.2.1 p1 (fun ⟨i, c1, c2⟩ => k2 ?_), fin _ rb.1 rb.2.1 p2 (fun ⟨i, c1, c2⟩ => k2 ?_)⟩
      · rcases Nat.mod_two_eq_zero_or_one i with p | p
        · by_cases z : i + 1 < 2 * m
          · exact ⟨i + 1, z, by rw [mt_z_e p, c2]; exact ra.2.2.1⟩
          · omega
        · obtain ⟨i, rfl⟩ : ∃ k, i = k + 1 := ⟨i - 1, by omega⟩
          exact ⟨i, by omega, by rw [← mt_z_be ha hb (by omega) (by omega) (by omega : i % 2 = 0), c2]; exact ra.2.2.1⟩
      · rcases Nat.mod_two_eq_zero_or_one i with p | p
        · by_cases z : i = 0
          · subst z
            refine ⟨2 * m - 1, by omega, ?_⟩
            have g : β (mt_z α β n (2 * m - 1 + 1)) = mt_z α β n (2 * m - 1) := mt_z_bo ha hb (by omega) (by omega) (by omega)
            rw [show 2 * m - 1 + 1 = 2 * m by omega, m3] at g
            have c2 : (n : Int) = β j := c2
            rw [← g, c2]; exact rb.2.2.1
          · obtain ⟨i, rfl⟩ : ∃ k, i = k + 1 := ⟨i - 1, by omega⟩
            exact ⟨i, by omega, by rw [← mt_z_bo ha hb (by omega) (by omega) (by omega : i % 2 = 1), c2]; exact rb.2.2.1⟩
        · by_cases z : i + 1 < 2 * m
          · exact ⟨i + 1, z, by rw [mt_z_o p, c2]; exact rb.2.2.1⟩
          · refine ⟨0, by omega, ?_⟩
            have g : mt_z α β n (i + 1) = β (mt_z α β n i) := mt_z_o p
            rw [show i + 1 = 2 * m by omega, m3, c2, rb.2.2.1] at g
            exact g
    · have e : mt_lbs α β (n + 1) = mt_lbs α β n := by
        conv => lhs; unfold mt_lbs
        exact if_neg q
      rw [e]
      exact ⟨i1, i2, by omega, i4⟩
