/-! a TEXT without fault, part by part -/
theorem mt_gr_c {t : Int → Int} {n h w : Int} {F : Nat} {i d need : Int} (n0 : 0 ≤ n) (i0 : 0 ≤ i) (g : mt_gr t n h w (F + 1) i d need = 0) :
    (n ≤ i ∧ need = 0 ∧ d = 0) ∨ (i < n ∧ t i = 40 ∧ d ≠ 6 ∧ mt_gr t n h w F (i + 1) (d + 1) 1 = 0) ∨
    (i < n ∧ t i = 41 ∧ d ≠ 0 ∧ need = 0 ∧ mt_tf t n (i + 1) = 0 ∧ mt_gr t n h w F (mt_tn t n (i + 1)) (d - 1) 0 = 0) ∨
    (i < n ∧ (t i = 120 ∨ t i = 117) ∧ i + 1 < n ∧ 48 ≤ t (i + 1) ∧ t (i + 1) ≤ 57 ∧ t (i + 1) - 48 ≤ h - 2 ∧ mt_tf t n (i + 2) = 0 ∧ mt_gr t n h w F (mt_tn t n (i + 2)) d 0 = 0) ∨
    (i < n ∧ 65 ≤ t i ∧ t i < 81 ∧ t i - 65 < w ∧ mt_tf t n (i + 1) = 0 ∧ mt_gr t n h w F (mt_tn t n (i + 1)) d 0 = 0) := by
  unfold mt_gr at g
  by_cases c0 : n ≤ i
  · rw [if_pos c0] at g
    left
    by_cases q : need = 0 ∧ d = 0
    · exact ⟨c0, q.1, q.2⟩
    · rw [if_neg q] at g; omega
  rw [if_neg c0] at g
  right
  by_cases c1 : t i = 40
  · rw [if_pos c1] at g
    left
    by_cases q : d = 6
    · rw [if_pos q] at g; omega
    · rw [if_neg q] at g; exact ⟨by omega, c1, q, g⟩
  rw [if_neg c1] at g
  right
  by_cases c2 : t i = 41
  · rw [if_pos c2] at g
    left
    by_cases q : d = 0 ∨ need ≠ 0
    · rw [if_pos q] at g; omega
    · rw [if_neg q] at g
      by_cases z : mt_tf t n (i + 1) = 0
      · rw [if_neg (fun c => c z)] at g; exact ⟨by omega, c2, by omega, by omega, z, g⟩
      · rw [if_pos z] at g; exact absurd g z
  rw [if_neg c2] at g
  right
  by_cases c3 : t i = 120 ∨ t i = 117
  · rw [if_pos c3] at g
    left
    by_cases q : 48 ≤ mt_c t n (i + 1) ∧ mt_c t n (i + 1) ≤ 57
    · rw [if_neg (fun c => c q)] at g
      have jn : i + 1 < n := by
        rcases Int.lt_or_le (i + 1) n with c | c
        · exact c
        · unfold mt_c at q; rw [if_neg (by omega)] at q; omega
      have e : mt_c t n (i + 1) = t (i + 1) := by unfold mt_c; rw [if_pos jn]
      rw [e] at g q
      by_cases y : h - 2 < t (i + 1) - 48
      · rw [if_pos y] at g; omega
      · rw [if_neg y] at g
        by_cases z : mt_tf t n (i + 2) = 0
        · rw [if_neg (fun c => c z)] at g; exact ⟨by omega, c3, jn, q.1, q.2, by omega, z, g⟩
        · rw [if_pos z] at g; exact absurd g z
    · rw [if_pos q] at g; omega
  rw [if_neg c3] at g
  right
  by_cases c4 : 65 ≤ t i ∧ t i < 81
  · rw [if_pos c4] at g
    by_cases q : w ≤ t i - 65
    · rw [if_pos q] at g; omega
    · rw [if_neg q] at g
      by_cases z : mt_tf t n (i + 1) = 0
      · rw [if_neg (fun c => c z)] at g; exact ⟨by omega, c4.1, c4.2, by omega, z, g⟩
      · rw [if_pos z] at g; exact absurd g z
  · rw [if_neg c4] at g; omega
/-- the value of m digits from j on -/
def mt_vl (t : Int → Int) (j : Int) : Nat → Int
  | 0 => 0
  | m + 1 => 10 * mt_vl t j m + (t (j + m) - 48)
def mt_tm (t : Int → Int) (n i : Int) : Int := if i < n ∧ t i = 42 then mt_vl t (i + 1) (mt_ds t n 9 (i + 1)).toNat else 1
theorem mt_ds_d {t : Int → Int} {n : Int} : ∀ (F : Nat) (i : Int) (k : Nat), (k : Int) < mt_ds t n F i → i + k < n ∧ 48 ≤ t (i + k) ∧ t (i + k) ≤ 57 := by
  intro F
  induction F with
  | zero => intro i k hk; have : mt_ds t n 0 i = 0 := rfl; omega
  | succ F ih =>
    intro i k hk
    rw [mt_ds_s] at hk
    by_cases q : 48 ≤ mt_c t n i ∧ mt_c t n i ≤ 57
    · rw [if_pos q] at hk
      have jn : i < n := by
        rcases Int.lt_or_le i n with c | c
        · exact c
        · unfold mt_c at q; rw [if_neg (by omega)] at q; omega
      have e : mt_c t n i = t i := by unfold mt_c; rw [if_pos jn]
      cases k with
      | zero => rw [Int.natCast_zero, Int.add_zero]; rw [e] at q; exact ⟨jn, q.1, q.2⟩
      | succ k =>
        have := ih (i + 1) k (by omega)
        rw [show i + ((k + 1 : Nat) : Int) = i + 1 + k by omega]
        exact this
    · rw [if_neg q] at hk; omega
theorem mt_vl_r {t : Int → Int} {j : Int} : ∀ m : Nat, (∀ k : Nat, k < m → 48 ≤ t (j + k) ∧ t (j + k) ≤ 57) → 0 ≤ mt_vl t j m ∧ mt_vl t j m < ((10 ^ m : Nat) : Int) := by
  intro m
  induction m with
  | zero => intro _; exact ⟨Int.le_refl 0, by show (0:Int) < ((1:Nat):Int); omega⟩
  | succ m ih =>
    intro hd
    have i := ih (fun k hk => hd k (by omega))
    have d := hd m (by omega)
    unfold mt_vl
    rw [Nat.pow_succ, Int.natCast_mul]
    omega
/-- times that are told: m digits -/
theorem mt_tf_0 {t : Int → Int} {n i : Int} (i0 : 0 ≤ i) (g : mt_tf t n i = 0) (s : i < n ∧ t i = 42) : ∃ m : Nat, 1 ≤ m ∧ m ≤ 9 ∧ mt_tn t n i = i + 1 + m ∧ i + 1 + m ≤ n ∧ mt_tm t n i = mt_vl t (i + 1) m ∧ (∀ k : Nat, k < m → 48 ≤ t (i + 1 + k) ∧ t (i + 1 + k) ≤ 57) ∧ (i + 1 + m < n → ¬ (48 ≤ t (i + 1 + m) ∧ t (i + 1 + m) ≤ 57)) := by
  obtain ⟨r1, r2, r3⟩ := mt_ds_r (t := t) (n := n) 9 (i + 1)
  have r3 := r3 (by omega)
  have dd := mt_ds_d (t := t) (n := n) 9 (i + 1)
  have e1 : mt_tn t n i = i + 1 + mt_ds t n 9 (i + 1) := by unfold mt_tn; rw [if_pos s]
  have e2 : mt_tm t n i = mt_vl t (i + 1) (mt_ds t n 9 (i + 1)).toNat := by unfold mt_tm; rw [if_pos s]
  unfold mt_tf at g
  rw [if_pos s] at g
  by_cases z : mt_ds t n 9 (i + 1) = 0
  · rw [if_pos z] at g; omega
  · rw [if_neg z] at g
    by_cases y : 48 ≤ mt_c t n (i + 1 + mt_ds t n 9 (i + 1)) ∧ mt_c t n (i + 1 + mt_ds t n 9 (i + 1)) ≤ 57
    · rw [if_pos y] at g; omega
    · generalize mt_ds t n 9 (i + 1) = x at *
      obtain ⟨m, rfl⟩ := Int.eq_ofNat_of_zero_le r1
      refine ⟨m, by omega, by omega, e1, by omega, by rw [e2]; rfl, fun k hk => (dd k (by omega)).2, fun hn c => y ?_⟩
      unfold mt_c
      rw [if_pos (by omega)]; exact c
theorem mt_tm_r {t : Int → Int} {n i : Int} (i0 : 0 ≤ i) (g : mt_tf t n i = 0) : 0 ≤ mt_tm t n i ∧ mt_tm t n i < 1000000000 := by
  by_cases s : i < n ∧ t i = 42
  · obtain ⟨m, m1, m2, e1, e2, e3, e4, e5⟩ := mt_tf_0 i0 g s
    have r := mt_vl_r m e4
    have l : (10 : Nat) ^ m ≤ 10 ^ 9 := Nat.pow_le_pow_right (by omega) m2
    rw [e3]
    omega
  · unfold mt_tm; rw [if_neg s]; omega
/-- the class's Items -/
def mt_is (σ : ml_St) (p n i kd v tm : Int) : ml_St := fun a b => if a = 9 then (if b = 0 then p else if b = 1 then n else if b = 2 then i else if b = 3 then kd else if b = 4 then v else if b = 5 then tm else σ 9 b) else σ a b
theorem mt_is_k {σ : ml_St} {p n i kd v tm a : Int} (h : a ≠ 9) : mt_is σ p n i kd v tm a = σ a := by funext b; unfold mt_is; rw [if_neg h]
theorem mt_is_2 {σ : ml_St} {p n i kd v tm x : Int} : ml_up (mt_is σ p n i kd v tm) 9 2 x = mt_is σ p n x kd v tm := by
  funext a b; unfold ml_up mt_is
  by_cases q : a = 9
  · subst q; by_cases r : b = 2
    · subst r; simp
    · simp [r]
  · simp [q]
theorem mt_is_3 {σ : ml_St} {p n i kd v tm x : Int} : ml_up (mt_is σ p n i kd v tm) 9 3 x = mt_is σ p n i x v tm := by
  funext a b; unfold ml_up mt_is
  by_cases q : a = 9
  · subst q; by_cases r : b = 3
    · subst r; simp
    · simp [r]
  · simp [q]
theorem mt_is_4 {σ : ml_St} {p n i kd v tm x : Int} : ml_up (mt_is σ p n i kd v tm) 9 4 x = mt_is σ p n i kd x tm := by
  funext a b; unfold ml_up mt_is
  by_cases q : a = 9
  · subst q; by_cases r : b = 4
    · subst r; simp
    · simp [r]
  · simp [q]
theorem mt_is_5 {σ : ml_St} {p n i kd v tm x : Int} : ml_up (mt_is σ p n i kd v tm) 9 5 x = mt_is σ p n i kd v x := by
  funext a b; unfold ml_up mt_is
  by_cases q : a = 9
  · subst q; by_cases r : b = 5
    · subst r; simp
    · simp [r]
  · simp [q]
theorem s_begin {Q : ml_St → Prop} {σ : ml_St} {p n : Int} (k : Q (mt_is σ p n 0 (σ 9 3) (σ 9 4) (σ 9 5))) : f_X3_begin σ p n Q := by
  unfold f_X3_begin f_X3_begin_u0
  intro σ1 g1 σ2 g2 σ3 g3
  have e : σ3 = mt_is σ p n 0 (σ 9 3) (σ 9 4) (σ 9 5) := by
    rw [g3, g2, g1]
    funext a b
    unfold ml_up mt_is
    by_cases q : a = 9
    · subst q
      by_cases r0 : b = 0
      · subst r0; simp
      by_cases r1 : b = 1
      · subst r1; simp
      by_cases r2 : b = 2
      · subst r2; simp
      by_cases r3 : b = 3
      · subst r3; simp
      by_cases r4 : b = 4
      · subst r4; simp
      by_cases r5 : b = 5
      · subst r5; simp
      simp [r0, r1, r2, r3, r4, r5]
    · simp [q]
  rw [e]; exact k
theorem s_take {Q : Int → ml_St → Prop} {σ : ml_St} {p n i kd v tm : Int} (tx : ml_tx p) (p9 : p ≠ 9) (i0 : 0 ≤ i) (i1 : i < n) (n1 : n ≤ 100) (k : Q (σ p i) (mt_is σ p n (i + 1) kd v tm)) : f_X3_take (mt_is σ p n i kd v tm) Q := by
  have e0 : mt_is σ p n i kd v tm 9 0 = p := rfl
  have e1 : mt_is σ p n i kd v tm 9 1 = n := rfl
  have e2 : mt_is σ p n i kd v tm 9 2 = i := rfl
  unfold f_X3_take f_X3_take_u0
  rw [e1, e2, e0, mt_is_k p9]
  refine fun _ _ => ⟨fun c => absurd c (by omega), fun _ => ⟨tx, fun _ => ⟨i0, by omega, fun _ => ?_⟩⟩⟩
  unfold f_X3_take_u25
  rw [e2]
  refine fun _ => ⟨mt_I (by omega) (by omega), fun σ3 g3 => ?_⟩
  rw [g3, mt_is_2]
  exact k
theorem s_readTimes3 {Q : ml_St → Prop} {σ : ml_St} {p n i kd v tm : Int} (tx : ml_tx p) (p9 : p ≠ 9) (i0 : 0 ≤ i) (n1 : n ≤ 100) (g : mt_tf (σ p) n i = 0) (s : i < n ∧ σ p i = 42) (k : Q (mt_is σ p n (mt_tn (σ p) n i) kd v (mt_tm (σ p) n i))) : f_X3_readTimes (mt_is σ p n i kd v tm) Q := by
  obtain ⟨m, m1, m2, e1, e2, e3, e4, e5⟩ := mt_tf_0 i0 g s
  rw [e1, e3] at k
  have f0 : ∀ i tm, mt_is σ p n i kd v tm 9 0 = p := fun _ _ => rfl
  have f1 : ∀ i tm, mt_is σ p n i kd v tm 9 1 = n := fun _ _ => rfl
  have f2 : ∀ i tm, mt_is σ p n i kd v tm 9 2 = i := fun _ _ => rfl
  have f5 : ∀ i tm, mt_is σ p n i kd v tm 9 5 = tm := fun _ _ => rfl
  have L : ∀ (N q : Nat), q ≤ m → m - q < N → f_X3_readTimes_u15 Q (f_X3_readTimes_u78 Q) N (mt_is σ p n (i + 1 + q) kd v (mt_vl (σ p) (i + 1) q)) := by
    intro N
    induction N with
    | zero => intro q hq hN; omega
    | succ N ih =>
      intro q hq hN
      have r := mt_vl_r q (fun k hk => e4 k (by omega))
      have l : (10 : Nat) ^ q ≤ 10 ^ 9 := Nat.pow_le_pow_right (by omega) (by omega)
      unfold f_X3_readTimes_u15
      rw [f1, f2, f0, mt_is_k p9]
      by_cases z : q = m
      · subst z
        refine fun _ _ => ⟨fun _ => k, fun c => ⟨tx, fun _ => ⟨by omega, by omega, fun _ => s_dig2 (fun c2 => absurd c2 (e5 (by omega))) (fun _ _ => ⟨fun _ => k, fun c => absurd rfl c⟩)⟩⟩⟩
      · have d := e4 q (by omega)
        refine fun _ _ => ⟨fun c => absurd c (by omega), fun c => ⟨tx, fun _ => ⟨by omega, by omega, fun _ => s_dig2 (fun _ => ?_) (fun c2 => absurd d c2)⟩⟩⟩
        refine fun _ => ⟨fun c => absurd c (by omega), fun _ => ?_⟩
        have r1 := mt_vl_r (q + 1) (fun k hk => e4 k (by omega))
        have l1 : (10 : Nat) ^ (q + 1) ≤ 10 ^ 9 := Nat.pow_le_pow_right (by omega) (by omega)
        have ev : mt_vl (σ p) (i + 1) (q + 1) = 10 * mt_vl (σ p) (i + 1) q + (σ p (i + 1 + q) - 48) := rfl
        rw [f5, f0, f2, mt_is_k p9]
        have b1 : I32 (mt_vl (σ p) (i + 1) q * 10) := ⟨by omega, by omega⟩
        refine fun _ => ⟨b1, tx, fun _ => ⟨by omega, by omega, fun _ => ⟨⟨by omega, by omega⟩, ⟨by omega, by omega⟩, fun σ16 g16 => ?_⟩⟩⟩
        rw [g16, mt_is_5, f2]
        refine fun _ => ⟨mt_I (by omega) (by omega), fun σ19 g19 => ?_⟩
        rw [g19, mt_is_2]
        have := ih (q + 1) (by omega) (by omega)
        rw [ev] at this
        rw [show mt_vl (σ p) (i + 1) q * 10 + σ p (i + 1 + q) - 48 = 10 * mt_vl (σ p) (i + 1) q + (σ p (i + 1 + q) - 48) by omega, show i + 1 + (q : Int) + 1 = i + 1 + ((q + 1 : Nat) : Int) by omega]
        exact this
  unfold f_X3_readTimes f_X3_readTimes_u0
  intro σ1 g1
  rw [g1, mt_is_5, f2]
  refine fun _ => ⟨mt_I (by omega) (by omega), fun σ4 g4 => ⟨20, ?_⟩⟩
  rw [g4, mt_is_2]
  have := L 20 0 (by omega) (by omega)
  rw [Int.natCast_zero, Int.add_zero] at this
  exact this
/-- behind an item -/
theorem s_step108 {Q : Int → ml_St → Prop} {σ : ml_St} {p n i kd v : Int} (tx : ml_tx p) (p9 : p ≠ 9) (i0 : 0 ≤ i) (i1 : i ≤ n) (n1 : n ≤ 100) (g : mt_tf (σ p) n i = 0) (k : Q 1 (mt_is σ p n (mt_tn (σ p) n i) kd v (mt_tm (σ p) n i))) : f_X3_step_u108 Q (mt_is σ p n i kd v 1) := by
  have e0 : mt_is σ p n i kd v 1 9 0 = p := rfl
  have e1 : mt_is σ p n i kd v 1 9 1 = n := rfl
  have e2 : mt_is σ p n i kd v 1 9 2 = i := rfl
  unfold f_X3_step_u108
  rw [e1, e2, e0, mt_is_k p9]
  have no : ¬ (i < n ∧ σ p i = 42) → f_X3_step_u137 Q (mt_is σ p n i kd v 1) := by
    intro c
    unfold f_X3_step_u137
    unfold mt_tn mt_tm at k
    rw [if_neg c, if_neg c] at k
    exact k
  refine fun _ _ => ⟨fun c => no (by omega), fun c => ⟨tx, fun _ => ⟨i0, by omega, fun _ => ⟨fun c2 => no (fun z => c2 z.2), fun c2 => s_readTimes3 tx p9 i0 n1 g ⟨by omega, c2⟩ ?_⟩⟩⟩⟩
  unfold f_X3_step_u137
  exact k
theorem s_step {Q : Int → ml_St → Prop} {σ : ml_St} {p n i kd v tm h w d need : Int} {F : Nat} (tx : ml_tx p) (p9 : p ≠ 9) (i0 : 0 ≤ i) (i1 : i ≤ n) (n1 : n ≤ 100) (h5 : h ≤ 5) (g : mt_gr (σ p) n h w (F + 1) i d need = 0)
    (kE : n ≤ i → need = 0 → d = 0 → Q 0 (mt_is σ p n i kd v tm))
    (kO : i < n → σ p i = 40 → d ≠ 6 → mt_gr (σ p) n h w F (i + 1) (d + 1) 1 = 0 → Q 1 (mt_is σ p n (i + 1) 0 v 1))
    (kC : i < n → σ p i = 41 → d ≠ 0 → need = 0 → mt_tf (σ p) n (i + 1) = 0 → mt_gr (σ p) n h w F (mt_tn (σ p) n (i + 1)) (d - 1) 0 = 0 → Q 1 (mt_is σ p n (mt_tn (σ p) n (i + 1)) 1 v (mt_tm (σ p) n (i + 1))))
    (kS : i + 1 < n → (σ p i = 120 ∨ σ p i = 117) → 48 ≤ σ p (i + 1) → σ p (i + 1) - 48 ≤ h - 2 → mt_tf (σ p) n (i + 2) = 0 → mt_gr (σ p) n h w F (mt_tn (σ p) n (i + 2)) d 0 = 0 → Q 1 (mt_is σ p n (mt_tn (σ p) n (i + 2)) 2 (2 * (σ p (i + 1) - 48) + (if σ p i = 117 then 1 else 0)) (mt_tm (σ p) n (i + 2))))
    (kL : i < n → 65 ≤ σ p i → σ p i < 81 → σ p i - 65 < w → mt_tf (σ p) n (i + 1) = 0 → mt_gr (σ p) n h w F (mt_tn (σ p) n (i + 1)) d 0 = 0 → Q 1 (mt_is σ p n (mt_tn (σ p) n (i + 1)) 3 (σ p i - 65) (mt_tm (σ p) n (i + 1)))) : f_X3_step (mt_is σ p n i kd v tm) Q := by
  have e1 : mt_is σ p n i kd v tm 9 1 = n := rfl
  have e2 : mt_is σ p n i kd v tm 9 2 = i := rfl
  unfold f_X3_step f_X3_step_u0
  rw [e1, e2]
  refine fun _ _ => ⟨fun c => s_take tx p9 i0 c n1 (fun _ σ5 g5 => ?_), fun c => ?_⟩
  · rw [mt_is_5] at g5
    subst g5
    have SG : (σ p i = 120 ∨ σ p i = 117) → f_X3_step_u62 Q (mt_is σ p n (i + 1) kd v 1) (σ p i) := by
      intro hc
      rcases mt_gr_c (by omega) i0 g with z | z | z | z | z
      · omega
      · omega
      · omega
      · obtain ⟨z1, z2, z3, z4, z5, z6, z7, z8⟩ := z
        unfold f_X3_step_u62
        intro σ1 g1
        rw [g1, mt_is_3]
        refine s_take tx p9 (by omega) z3 n1 (fun _ => ⟨mt_I (by omega) (by omega), mt_I (by omega) (by omega), fun c => ?_, fun c => ?_⟩)
        · unfold f_X3_step_u88
          refine ⟨mt_I (by omega) (by omega), fun σ2 g2 => ?_⟩
          rw [g2, mt_is_4, show i + 1 + 1 = i + 2 by omega]
          refine s_step108 tx p9 (by omega) (by omega) n1 z7 ?_
          have := kS z3 z2 z4 z6 z7 z8
          rw [if_neg c] at this; exact this
        · unfold f_X3_step_u88
          refine ⟨mt_I (by omega) (by omega), fun σ2 g2 => ?_⟩
          rw [g2, mt_is_4, show i + 1 + 1 = i + 2 by omega]
          refine s_step108 tx p9 (by omega) (by omega) n1 z7 ?_
          have := kS z3 z2 z4 z6 z7 z8
          rw [if_pos c] at this; exact this
      · omega
    refine ⟨fun c40 => ⟨fun c41 => ⟨fun c120 => SG (Or.inl c120), fun c120 => ⟨fun c117 σ10 g10 => ?_, fun c117 => SG (Or.inr c117)⟩⟩, fun c41 σ13 g13 => ?_⟩, fun c40 σ14 g14 => ?_⟩
    · rw [mt_is_3] at g10
      subst g10
      rcases mt_gr_c (by omega) i0 g with z | z | z | z | z
      · omega
      · omega
      · omega
      · omega
      · obtain ⟨z1, z2, z3, z4, z5, z6⟩ := z
        refine ⟨mt_I (by omega) (by omega), fun σ12 g12 => ?_⟩
        rw [g12, mt_is_4]
        exact s_step108 tx p9 (by omega) (by omega) n1 z5 (kL z1 z2 z3 z4 z5 z6)
    · rw [mt_is_3] at g13
      subst g13
      rcases mt_gr_c (by omega) i0 g with z | z | z | z | z
      · omega
      · omega
      · obtain ⟨z1, z2, z3, z4, z5, z6⟩ := z
        exact s_step108 tx p9 (by omega) (by omega) n1 z5 (kC z1 z2 z3 z4 z5 z6)
      · omega
      · omega
    · rw [mt_is_3] at g14
      subst g14
      rcases mt_gr_c (by omega) i0 g with z | z | z | z | z
      · omega
      · exact kO z.1 z.2.1 z.2.2.1 z.2.2.2
      · omega
      · omega
      · omega
  · rcases mt_gr_c (by omega) i0 g with z | z | z | z | z
    · exact kE z.1 z.2.1 z.2.2
    · omega
    · omega
    · omega
    · omega
