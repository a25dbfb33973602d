/-! the class: what study finds, exactly, where a power comes again among the first 64 -/
def mq_q (h : Int) (v cl : Int → Int) (a n : Nat) (σ : ml_St) : Prop := a < n ∧ n ≤ 63 ∧ σ 46 4 = a + 1 ∧ σ 46 5 = n - a ∧ σ 46 6 = w64 (mt_plo h v cl n - mt_plo h v cl a) ∧ (∀ i : Nat, i ≤ n → σ 48 (i + 1) = mt_plo h v cl i) ∧ mt_eq h (mt_pp h v a) (mt_pp h v n) ∧ mq_d h v n
theorem mq_u {h : Int} {v : Int → Int} {a n a' n' : Nat} (h1 : a < n) (e : mt_eq h (mt_pp h v a) (mt_pp h v n)) (d : mq_d h v n) (h1' : a' < n') (e' : mt_eq h (mt_pp h v a') (mt_pp h v n')) (d' : mq_d h v n') : a = a' ∧ n = n' := by
  have sy : ∀ {f g : Int → Int}, mt_eq h f g → mt_eq h g f := fun e x x0 x1 => (e x x0 x1).symm
  have tr : ∀ {f g k : Int → Int}, mt_eq h f g → mt_eq h g k → mt_eq h f k := fun e e2 x x0 x1 => (e x x0 x1).trans (e2 x x0 x1)
  have n1 : n = n' := by
    rcases Nat.lt_trichotomy n n' with z | z | z
    · exact absurd e (d' a n h1 z)
    · exact z
    · exact absurd e' (d a' n' h1' z)
  subst n1
  refine ⟨?_, rfl⟩
  rcases Nat.lt_trichotomy a a' with z | z | z
  · exact absurd (tr e (sy e')) (d a a' z h1')
  · exact z
  · exact absurd (tr e' (sy e)) (d a' a z h1)
theorem mt_nm_c {f g : Int → Int} : ∀ (k e o s : Nat), (∀ x : Nat, e ≤ x → x < e + k → f x = g x) → mt_nm f k e o s = mt_nm g k e o s := by
  intro k
  induction k with
  | zero => intro e o s _; rfl
  | succ k ih =>
    intro e o s h
    have i := fun o s => ih (e + 1) o s (fun x h1 h2 => h x (by omega) (by omega))
    unfold mt_nm
    rw [h e (by omega) (by omega), i, i]
theorem mt_num_c {h : Int} {f g : Int → Int} (h2 : 2 ≤ h) (h5 : h ≤ 5) (hf : mt_M h f) (e : mt_eq h f g) : mt_num h f = mt_num h g := by
  unfold mt_num
  exact mt_nm_c _ _ _ _ (fun x _ h2 => e x (by omega) (by omega))
theorem s_study_x {Q : ml_St → Prop} {p h : Int} {σ0 : ml_St} {v cl : Int → Int} (h2 : 2 ≤ h) (h5 : h ≤ 5) (pd : p + 3 ≤ 46 ∨ 55 ≤ p) (p5 : 5 < p) (hv : mt_M h v) (wv : mt_wv h σ0 p v) (hc : mt_M h cl) (ec : mt_eq h (σ0 5) cl) (nb : ¬ mq_d h v 64) (k : ∀ σ (a n : Nat), mt_f46 σ0 σ → mq_q h v cl a n σ → Q σ) : f_X6_study σ0 p h Q := by
  have M := fun n => mt_pp_M h5 hv n
  have NE : ∀ i j : Nat, mt_num h (mt_pp h v i) = mt_num h (mt_pp h v j) → mt_eq h (mt_pp h v i) (mt_pp h v j) := fun i j => mt_num_inj h2 h5 (M i) (M j)
  have EN : ∀ i j : Nat, mt_eq h (mt_pp h v i) (mt_pp h v j) → mt_num h (mt_pp h v i) = mt_num h (mt_pp h v j) := fun i j e => mt_num_c h2 h5 (M i) e
  have KE : ∀ (σ : ml_St) (a n : Nat), mt_f46 σ0 σ → a < n → n ≤ 63 → σ 46 4 = a + 1 → σ 46 5 = n - a → (∀ i : Nat, i ≤ n → σ 48 (i + 1) = mt_plo h v cl i) → mt_eq h (mt_pp h v a) (mt_pp h v n) → mq_d h v n → f_X6_study_u168 Q p σ := by
    intro σ a n f an n6 e1 e2 el ee dd
    unfold f_X6_study_u168
    have x1 := el n (Nat.le_refl n)
    have x2 := el a (by omega)
    rw [e1, e2, show (a : Int) + 1 + (n - a) = n + 1 by omega, x1, x2]
    refine fun _ _ => ⟨mt_i (by omega) (by omega), by omega, by omega, fun _ _ => ⟨by omega, by omega, fun _ σ8 s8 => ?_⟩⟩
    exact k σ8 a n (mt_f46_t f (by rw [s8]; exact mt_f46_up (by omega) (by omega))) ⟨an, n6, by rw [s8, ml_up_i (by omega), e1], by rw [s8, ml_up_i (by omega), e2], by rw [s8, ml_up_same], fun i hi => by rw [s8, ml_up_k (by omega)]; exact el i hi, ee, dd⟩
  have L : ∀ (N : Nat) (n : Nat) (σ : ml_St) (u : Int → Int), n ≤ 63 → 65 - (n : Int) < N → mt_f46 σ0 σ → (n = 0 → u = mt_pp h v 0) → (n ≠ 0 → u = mt_pp h v (n - 1)) → mt_wv h σ 49 u → (∀ i : Nat, i < n → σ 48 (i + 1) = mt_plo h v cl i) → (∀ i : Nat, i < n → σ 47 (i + 1) = mt_num h (mt_pp h v i)) → mq_d h v n → f_X6_study_u24 Q (f_X6_study_u168 Q p) p N σ h 0 (n + 1) := by
    intro N
    induction N with
    | zero => intro n σ u n1 hN; omega
    | succ N ih =>
      intro n σ u n6 hN f hu0 hu1 wu el en dd
      unfold f_X6_study_u24
      refine ⟨fun c => absurd c (by omega), fun c => ⟨fun c => absurd rfl c, fun _ => ?_⟩⟩
      have U66 : ∀ (σ : ml_St), mt_f46 σ0 σ → mt_wv h σ 49 (mt_pp h v n) → (∀ i : Nat, i < n → σ 48 (i + 1) = mt_plo h v cl i) → (∀ i : Nat, i < n → σ 47 (i + 1) = mt_num h (mt_pp h v i)) → f_X6_study_u66 Q (f_X6_study_u24 Q (f_X6_study_u168 Q p) p N) p σ h 0 (n + 1) := by
        intro σ f wu el en
        unfold f_X6_study_u66
        refine s_number h2 h5 (M n) (mt_eq_wa wu).1 (fun _ => ⟨by omega, by omega, fun σ2 s2 _ => ?_⟩)
        have k2 : ∀ j, j ≠ 47 → σ2 j = σ j := fun j hj => by rw [s2, ml_up_k hj]
        refine s_loopsBy (α := mt_pp h v n) (β := cl) h2 h5 (M n) hc (fun e e0 e1 => by rw [k2 _ (by omega)]; exact (wu.1 e e0 e1).1) (fun e e0 e1 => by rw [k2 _ (by omega), f 5 (by omega)]; exact ec e e0 e1) ?_
        refine fun _ => ⟨by omega, by omega, fun σ6 s6 => ⟨n + 1, ?_⟩⟩
        have w20 : σ2 49 2 = mt_pp h v n 20 := by rw [k2 49 (by omega)]; exact wu.2.1
        rw [w20] at s6
        have k6 : ∀ j, j ≠ 47 → j ≠ 48 → σ6 j = σ j := fun j h1 h3 => by rw [s6, ml_up_k h3, k2 j h1]
        have f6 : mt_f46 σ0 σ6 := fun j hj => by rw [k6 j (by omega) (by omega), f j hj]
        have w6 : mt_wv h σ6 49 (mt_pp h v n) := mt_wv_eq (k6 _ (by omega) (by omega)) (k6 _ (by omega) (by omega)) (k6 _ (by omega) (by omega)) wu
        have l6 : ∀ i : Nat, i < n + 1 → σ6 48 (i + 1) = mt_plo h v cl i := fun i hi => by
          rw [s6]
          by_cases z : i = n
          · subst z; rw [ml_up_same]; rfl
          · rw [ml_up_i (by omega), k2 48 (by omega)]; exact el i (by omega)
        have n6' : ∀ i : Nat, i < n + 1 → σ6 47 (i + 1) = mt_num h (mt_pp h v i) := fun i hi => by
          rw [s6, ml_up_k (by omega), s2]
          by_cases z : i = n
          · subst z; rw [ml_up_same]
          · rw [ml_up_i (by omega)]; exact en i (by omega)
        have I : ∀ (M' : Nat) (j : Nat), j ≤ n → n - j < M' → (∀ i : Nat, i < j → ¬ mt_eq h (mt_pp h v i) (mt_pp h v n)) → f_X6_study_u109 Q (f_X6_study_u162 Q (f_X6_study_u24 Q (f_X6_study_u168 Q p) p N) p) p M' σ6 h 0 (n + 1) (j + 1) := by
          intro M'
          induction M' with
          | zero => intro j j1 hM; omega
          | succ M' ihM =>
            intro j j1 hM dj
            unfold f_X6_study_u109
            refine ⟨fun c3 => ?_, fun c3 => ⟨fun c => absurd rfl c, fun _ => ⟨by omega, by omega, fun _ => ⟨by omega, by omega, fun _ => ?_⟩⟩⟩⟩
            · have ej : j = n := by omega
              subst ej
              have d' : mq_d h v (j + 1) := fun x y xy yj => by
                by_cases z : y = j
                · subst z; exact dj x xy
                · exact dd x y xy (by omega)
              have j6 : j ≠ 63 := fun z => nb (by rw [← show j + 1 = 64 by omega]; exact d')
              unfold f_X6_study_u162
              refine ⟨mt_i (by omega) (by omega), fun y1 e1 => ?_⟩
              have e1 : y1 = ((j + 1 : Nat) : Int) + 1 := by omega
              subst e1
              exact ih (j + 1) σ6 (mt_pp h v j) (by omega) (by omega) f6 (fun z => absurd z (by omega)) (fun _ => by rw [show j + 1 - 1 = j by omega]) w6 l6 n6' d'
            · rw [n6' j (by omega), n6' n (by omega)]
              refine ⟨fun ne => ?_, fun eq σ7 s7 => ⟨mt_i (by omega) (by omega), fun σ8 s8 => ?_⟩⟩
              · unfold f_X6_study_u156
                refine ⟨mt_i (by omega) (by omega), fun y1 e1 => ?_⟩
                have e1 : y1 = ((j + 1 : Nat) : Int) + 1 := by omega
                subst e1
                refine ihM (j + 1) (by omega) (by omega) (fun i hi => ?_)
                by_cases z : i = j
                · subst z; exact fun e => ne (by rw [EN i n e])
                · exact dj i (by omega)
              · have ee := NE j n (by omega)
                unfold f_X6_study_u156
                refine ⟨mt_i (by omega) (by omega), fun y1 e1 => ?_⟩
                have k8 : ∀ j, j ≠ 46 → σ8 j = σ6 j := fun j hj => by rw [s8, ml_up_k hj, s7, ml_up_k hj]
                have fin : f_X6_study_u162 Q (f_X6_study_u24 Q (f_X6_study_u168 Q p) p N) p σ8 h 1 (n + 1) := by
                  unfold f_X6_study_u162
                  refine ⟨mt_i (by omega) (by omega), fun y2 e2 => ?_⟩
                  obtain ⟨N', rfl⟩ : ∃ N', N = N' + 1 := ⟨N - 1, by omega⟩
                  have fk : f_X6_study_u168 Q p σ8 := KE σ8 j n (fun x hx => by rw [k8 x (by omega), f6 x hx]) (by omega) (by omega) (by rw [s8, ml_up_i (by omega), s7, ml_up_same]) (by rw [s8, ml_up_same]; omega) (fun i hi => by rw [k8 48 (by omega)]; exact l6 i (by omega)) ee dd
                  unfold f_X6_study_u24
                  exact ⟨fun _ => fk, fun _ => ⟨fun _ => fk, fun z => absurd z (by omega)⟩⟩
                obtain ⟨M'', rfl⟩ : ∃ M'', M' = M'' + 1 := ⟨M' - 1, by omega⟩
                unfold f_X6_study_u109
                exact ⟨fun _ => fin, fun _ => ⟨fun _ => fin, fun z => absurd z (by omega)⟩⟩
        have := I (n + 1) 0 (by omega) (by omega) (fun i hi => absurd hi (by omega))
        exact this
      refine ⟨fun c3 => ?_, fun c3 => ?_⟩
      · have n0 : n = 0 := by omega
        have := hu0 n0
        subst n0
        rw [this] at wu
        exact U66 σ f wu el en
      · obtain ⟨n', rfl⟩ : ∃ n', n = n' + 1 := ⟨n - 1, by omega⟩
        have eu := hu1 (by omega)
        rw [show n' + 1 - 1 = n' by omega] at eu
        rw [eu] at wu
        have wv' : mt_wv h σ p v := mt_wv_eq (f _ (by omega)) (f _ (by omega)) (f _ (by omega)) wv
        refine s_beBoth h2 h5 (by omega) (by omega) (M n') hv wu wv' (fun σ4 f4 w4 => s_beLike h5 (by omega) w4 (fun σ5 f5 w5 => ?_))
        have ff : mt_f46 σ σ5 := mt_f46_t (mt_f46_fr (by omega) (by omega) f4) (mt_f46_fr (by omega) (by omega) f5)
        have o : ∀ j, j = 47 ∨ j = 48 → σ5 j = σ j := fun j hj => by rw [f5 j (by omega) (by omega) (by omega), f4 j (by omega) (by omega) (by omega)]
        exact U66 σ5 (mt_f46_t f ff) w5 (fun i hi => by rw [o 48 (by omega)]; exact el i hi) (fun i hi => by rw [o 47 (by omega)]; exact en i hi)
  unfold f_X6_study f_X6_study_u0
  intro σ1 s1 σ2 s2
  have f2 : mt_f46 σ0 σ2 := by rw [s2, s1]; exact mt_f46_t (mt_f46_up (by omega) (by omega)) (mt_f46_up (by omega) (by omega))
  refine s_beLike h5 (by omega) (mt_wv_eq (f2 _ (by omega)) (f2 _ (by omega)) (f2 _ (by omega)) wv) (fun σ3 f3 w3 => ⟨66, ?_⟩)
  have := L 66 0 σ3 v (by omega) (by omega) (mt_f46_t f2 (mt_f46_fr (by omega) (by omega) f3)) (fun _ => rfl) (fun z => absurd rfl z) w3 (fun i hi => absurd hi (by omega)) (fun i hi => absurd hi (by omega)) (fun i j _ hj => absurd hj (by omega))
  exact this
/-- some power comes again among the first 64 -/
def mq_64 : Prop := ∀ (h : Int) (v : Int → Int), 2 ≤ h → h ≤ 5 → mt_M h v → ¬ mq_d h v 64
theorem c_power_x {Q : Int → ml_St → Prop} {h told ts cap w x : Int} {tb cl pr sz : Int → Int} {T : Int → Int → Int} {σ0 : ml_St} (nb : mq_64) (i : IC h told ts cap tb cl pr sz T σ0) (k1 : mt_md told (mt_mk h T sz) w → 0 ≤ x → x ≤ 1 → ∀ σ (a n : Nat), IC h told ts cap tb cl pr sz T σ → (∀ j, 215 ≤ j → σ j = σ0 j) → mq_q h (mt_mk h T sz w) cl a n σ → Q (if x = 0 then (a : Int) + 1 else n - a) σ) (k0 : ¬ (mt_md told (mt_mk h T sz) w ∧ 0 ≤ x ∧ x ≤ 1) → Q (-1) σ0) : f_X11_power σ0 w x Q := by
  have t16 := i.1.2.2.2.2.2
  unfold f_X11_power f_X11_power_u0
  unfold f_X11_power_u17 f_X11_power_u64
  refine c_isMade i (fun q _ => ⟨fun z => absurd z (by omega), fun _ => ⟨fun _ => k0 (by omega), fun x0 => ⟨fun x1 => ⟨q.1, by have := q.2.1; omega, fun _ => ?_⟩, fun _ => k0 (by omega)⟩⟩⟩) (fun q _ => ⟨fun _ => k0 (fun z => q z.1), fun z => absurd rfl z⟩)
  obtain ⟨g1, g2, g3, g4⟩ := IC_w i q.1 q.2.1
  have c := i.2.2.1
  rw [i.1.1, show 119 + 6 * w + 2 = 121 + 6 * w by omega]
  refine s_study_x i.1.2.2.1 i.1.2.2.2.1 (Or.inr (by have := q.1; omega)) (by have := q.1; omega) g3 g2 c.2.2.2.1 c.2.2.1 (nb h _ i.1.2.2.1 i.1.2.2.2.1 g3) (fun σ a n f p => ?_)
  have k := k1 q (by omega) (by omega) σ a n (IC_kp (mt_f46_kp f) i) (mt_kp_m (mt_f46_kp f)) p
  rw [p.2.2.1, p.2.2.2.1]
  refine ⟨fun z _ => ?_, fun z _ => ?_⟩
  · rw [if_neg z] at k; exact k
  · rw [if_pos z] at k; exact k
/-! some power of a matching of at most 10 ends comes again soon: all 1068 matchings are gone through -/
def bf_get (c x : Nat) : Nat := c / 16 ^ x % 16
def bf_cd (f : Nat → Nat) : Nat → Nat
  | 0 => 0
  | n + 1 => bf_cd f n + f n * 16 ^ n
def bf_f (c : Nat) (e : Int) : Int := (bf_get c e.toNat : Nat)
def bf_pr (h u v : Nat) : Nat := bf_cd (fun e => (mt_prod h (bf_f u) (bf_f v) e).toNat) (2 * h)
def bf_t (h v : Nat) : Nat → List Nat → Nat → Bool
  | 0, _, _ => false
  | F + 1, seen, u => if seen.contains u then true else mb_fc (bf_pr h u v) (fun u' => bf_t h v F (u :: seen) u')
def bf_all (h : Nat) : Nat → List Nat → Nat → Bool
  | 0, _, _ => false
  | F + 1, free, c => match free with
    | [] => bf_t h c 8 [] c
    | e :: rest => rest.all (fun j => mb_fc (c + j * 16 ^ e + e * 16 ^ j) (fun c' => bf_all h F (rest.erase j) c'))
theorem bf_2 : bf_all 2 3 [0, 1, 2, 3] 0 = true := by decide +kernel
theorem bf_3 : bf_all 3 4 [0, 1, 2, 3, 4, 5] 0 = true := by decide +kernel
theorem bf_4 : bf_all 4 5 [0, 1, 2, 3, 4, 5, 6, 7] 0 = true := by decide +kernel
theorem bf_5 : bf_all 5 6 [0, 1, 2, 3, 4, 5, 6, 7, 8, 9] 0 = true := by decide +kernel
theorem bf_cd_c {g g' : Nat → Nat} : ∀ n, (∀ x, x < n → g' x = g x) → bf_cd g' n = bf_cd g n := by
  intro n
  induction n with
  | zero => intro _; rfl
  | succ n ih => intro h; unfold bf_cd; rw [ih (fun x hx => h x (by omega)), h n (by omega)]
theorem bf_cd_up {g g' : Nat → Nat} {e : Nat} (he : ∀ x, x ≠ e → g' x = g x) (z : g e = 0) : ∀ n, e < n → bf_cd g' n = bf_cd g n + g' e * 16 ^ e := by
  intro n
  induction n with
  | zero => intro h; omega
  | succ n ih =>
    intro h
    unfold bf_cd
    by_cases q : e = n
    · subst q
      rw [bf_cd_c e (fun x hx => he x (by omega)), z]; omega
    · rw [ih (by omega), he n (by omega)]; omega
theorem bf_cd_lt {f : Nat → Nat} : ∀ n, (∀ x, x < n → f x < 16) → bf_cd f n < 16 ^ n := by
  intro n
  induction n with
  | zero => intro _; show 0 < 1; omega
  | succ n ih =>
    intro h
    have a := ih (fun x hx => h x (by omega))
    have b := Nat.mul_le_mul_right (16 ^ n) (show f n ≤ 15 by have := h n (by omega); omega)
    unfold bf_cd
    rw [Nat.pow_succ]
    omega
theorem bf_get_cd {f : Nat → Nat} : ∀ n, (∀ x, x < n → f x < 16) → ∀ x, x < n → bf_get (bf_cd f n) x = f x := by
  intro n
  induction n with
  | zero => intro _ x hx; omega
  | succ n ih =>
    intro h x hx
    have a := bf_cd_lt n (fun x hx => h x (by omega))
    unfold bf_cd bf_get
    by_cases q : x = n
    · subst q
      rw [Nat.add_mul_div_right _ _ (Nat.pow_pos (by omega)), Nat.div_eq_of_lt a, Nat.zero_add, Nat.mod_eq_of_lt (h x (by omega))]
    · have i := ih (fun x hx => h x (by omega)) x (by omega)
      unfold bf_get at i
      have e : f n * 16 ^ n = f n * 16 ^ (n - x - 1) * 16 * 16 ^ x := by
        have : 16 ^ n = 16 ^ (n - x - 1) * 16 * 16 ^ x := by
          rw [← Nat.pow_succ, ← Nat.pow_add, show (n - x - 1).succ + x = n by omega]
        rw [this, ← Nat.mul_assoc, ← Nat.mul_assoc]
      rw [e, Nat.add_mul_div_right _ _ (Nat.pow_pos (by omega)), Nat.add_mul_mod_self_right]
      exact i
theorem bf_t_s {h c : Nat} {cu : Nat → Nat} (h0 : ∀ n, cu (n + 1) = bf_pr h (cu n) c) : ∀ (F n : Nat) (seen : List Nat), (∀ y, y ∈ seen → ∃ i, i < n ∧ cu i = y) → bf_t h c F seen (cu n) = true → ∃ i m, i < m ∧ m ≤ n + F ∧ cu i = cu m := by
  intro F
  induction F with
  | zero => intro n seen _ t; exact absurd t (by unfold bf_t; decide)
  | succ F ih =>
    intro n seen hs t
    unfold bf_t at t
    by_cases q : seen.contains (cu n) = true
    · obtain ⟨i, i1, i2⟩ := hs (cu n) (by simpa using q)
      exact ⟨i, n, i1, by omega, i2⟩
    · rw [if_neg q, mb_fc_e, ← h0 n] at t
      obtain ⟨i, m, i1, i2, i3⟩ := ih (n + 1) (cu n :: seen) (fun y hy => by
        rcases List.mem_cons.mp hy with z | z
        · exact ⟨n, by omega, z.symm⟩
        · obtain ⟨i, i1, i2⟩ := hs y z
          exact ⟨i, by omega, i2⟩) t
      exact ⟨i, m, i1, by omega, i3⟩
theorem bf_all_s {h : Nat} {f : Nat → Nat} (hf : ∀ x, x < 2 * h → f x < 2 * h ∧ f (f x) = x ∧ f x ≠ x) : ∀ (F : Nat) (free : List Nat) (c : Nat), free.Nodup → (∀ x, x ∈ free → x < 2 * h ∧ f x ∈ free) → c = bf_cd (fun x => if x ∈ free then 0 else f x) (2 * h) → bf_all h F free c = true → bf_t h (bf_cd f (2 * h)) 8 [] (bf_cd f (2 * h)) = true := by
  intro F
  induction F with
  | zero => intro free c _ _ _ t; exact absurd t (by unfold bf_all; decide)
  | succ F ih =>
    intro free c nd cl ec t
    cases free with
    | nil =>
      have : c = bf_cd f (2 * h) := by rw [ec]; exact bf_cd_c _ (fun x _ => by simp)
      rw [← this]
      exact t
    | cons e rest =>
      have t : rest.all (fun j => mb_fc (c + j * 16 ^ e + e * 16 ^ j) (fun c' => bf_all h F (rest.erase j) c')) = true := t
      obtain ⟨ne, ndr⟩ := List.nodup_cons.mp nd
      obtain ⟨e1, e2⟩ := cl e List.mem_cons_self
      obtain ⟨f1, f2, f3⟩ := hf e e1
      have jr : f e ∈ rest := (List.mem_cons.mp e2).resolve_left f3
      have tj := List.all_eq_true.mp t (f e) jr
      rw [mb_fc_e] at tj
      have me : ∀ x, x ∈ rest.erase (f e) ↔ x ≠ f e ∧ x ∈ rest := fun x => ndr.mem_erase_iff
      refine ih _ _ (ndr.erase _) (fun x hx => ?_) ?_ tj
      · obtain ⟨x1, x2⟩ := (me x).1 hx
        obtain ⟨y1, y2⟩ := cl x (List.mem_cons_of_mem _ x2)
        obtain ⟨z1, z2, z3⟩ := hf x y1
        refine ⟨y1, (me _).2 ⟨fun q => ?_, (List.mem_cons.mp y2).resolve_left (fun q => ?_)⟩⟩
        · have : x = e := by rw [← z2, q, f2]
          rw [this] at x2; exact ne x2
        · exact x1 (by rw [← q, z2])
      · have u1 := bf_cd_up (g := fun x => if x ∈ e :: rest then 0 else f x) (g' := fun x => if x = e then f e else if x ∈ e :: rest then 0 else f x) (e := e) (fun x hx => by simp only [if_neg hx]) (by simp) (2 * h) e1
        have u2 := bf_cd_up (g := fun x => if x = e then f e else if x ∈ e :: rest then 0 else f x) (g' := fun x => if x = f e then e else if x = e then f e else if x ∈ e :: rest then 0 else f x) (e := f e) (fun x hx => by simp only [if_neg hx]) (by simp [f3, jr]) (2 * h) f1
        have u3 := bf_cd_c (g := fun x => if x = f e then e else if x = e then f e else if x ∈ e :: rest then 0 else f x) (g' := fun x => if x ∈ rest.erase (f e) then 0 else f x) (2 * h) (fun x _ => by
          by_cases q1 : x = f e
          · have : ¬ x ∈ rest.erase (f e) := fun z => ((me x).1 z).1 q1
            simp only [if_neg this, if_pos q1]; rw [q1, f2]
          · by_cases q2 : x = e
            · have : ¬ x ∈ rest.erase (f e) := fun z => ne (by rw [← q2]; exact ((me x).1 z).2)
              simp only [if_neg this, if_neg q1, if_pos q2]; rw [q2]
            · by_cases q3 : x ∈ rest
              · have h1 : x ∈ rest.erase (f e) := (me x).2 ⟨q1, q3⟩
                have h2 : x ∈ e :: rest := List.mem_cons_of_mem _ q3
                simp only [if_pos h1, if_neg q1, if_neg q2, if_pos h2]
              · have h1 : ¬ x ∈ rest.erase (f e) := fun z => q3 ((me x).1 z).2
                have h2 : ¬ x ∈ e :: rest := fun z => q3 ((List.mem_cons.mp z).resolve_left q2)
                simp only [if_neg h1, if_neg q1, if_neg q2, if_neg h2])
        simp only [if_true] at u1 u2
        rw [u3, u2, u1, ec]
theorem mq_8_p {h : Int} {v : Int → Int} (h2 : 2 ≤ h) (h5 : h ≤ 5) (hv : mt_M h v) : ∃ a m : Nat, a < m ∧ m ≤ 8 ∧ mt_eq h (mt_pp h v a) (mt_pp h v m) := by
  obtain ⟨H, rfl⟩ : ∃ H : Nat, h = H := ⟨h.toNat, by omega⟩
  -- v as natural numbers
  have hf : ∀ x : Nat, x < 2 * H → (v x).toNat < 2 * H ∧ (v ((v x).toNat : Nat)).toNat = x ∧ (v x).toNat ≠ x := fun x hx => by
    obtain ⟨y1, y2, y3, y4⟩ := hv x (by omega) (by omega)
    have e : (((v x).toNat : Nat) : Int) = v x := by omega
    rw [e, y3]
    omega
  have DE : ∀ g : Int → Int, mt_M H g → mt_eq H g (bf_f (bf_cd (fun x => (g x).toNat) (2 * H))) := fun g hg e e0 e1 => by
    unfold bf_f
    rw [bf_get_cd (f := fun x => (g x).toNat) (2 * H) (fun x hx => by have := hg x (by omega) (by omega); omega) e.toNat (by omega)]
    have := hg e e0 e1
    rw [show ((e.toNat : Nat) : Int) = e by omega]
    omega
  have T : bf_t H (bf_cd (fun x : Nat => (v x).toNat) (2 * H)) 8 [] (bf_cd (fun x : Nat => (v x).toNat) (2 * H)) = true := by
    have c4 : H = 2 ∨ H = 3 ∨ H = 4 ∨ H = 5 := by omega
    have go : ∀ (F : Nat) (l : List Nat), l.Nodup → (∀ x, x ∈ l ↔ x < 2 * H) → bf_all H F l 0 = true → bf_t H (bf_cd (fun x : Nat => (v x).toNat) (2 * H)) 8 [] (bf_cd (fun x : Nat => (v x).toNat) (2 * H)) = true := fun F l nd ml t => by
      refine bf_all_s (f := fun x : Nat => (v x).toNat) hf F l 0 nd (fun x hx => ⟨(ml x).1 hx, (ml _).2 (hf x ((ml x).1 hx)).1⟩) ?_ t
      have z : ∀ n : Nat, bf_cd (fun _ => 0) n = 0 := by
        intro n
        induction n with
        | zero => rfl
        | succ n ih => unfold bf_cd; rw [ih]; omega
      exact (z (2 * H)).symm.trans (bf_cd_c (2 * H) (fun x hx => by rw [if_pos ((ml x).2 hx)])).symm
    rcases c4 with z | z | z | z
    · subst z; exact go _ _ (by decide) (fun x => by simp; omega) bf_2
    · subst z; exact go _ _ (by decide) (fun x => by simp; omega) bf_3
    · subst z; exact go _ _ (by decide) (fun x => by simp; omega) bf_4
    · subst z; exact go _ _ (by decide) (fun x => by simp; omega) bf_5
  generalize hc : bf_cd (fun x : Nat => (v x).toNat) (2 * H) = c at T
  obtain ⟨cu, c0, cs⟩ : ∃ cu : Nat → Nat, cu 0 = c ∧ ∀ n, cu (n + 1) = bf_pr H (cu n) c := ⟨fun n => Nat.rec c (fun _ y => bf_pr H y c) n, rfl, fun _ => rfl⟩
  rw [← c0] at T
  obtain ⟨a, m, am, m12, e⟩ := bf_t_s (h := H) (c := c) cs 8 0 [] (fun y hy => absurd hy List.not_mem_nil) (by rw [← c0]; exact T)
  have hvc : mt_eq H v (bf_f c) := by rw [← hc]; exact DE v hv
  have E : ∀ n, mt_eq H (mt_pp H v n) (bf_f (cu n)) := by
    intro n
    induction n with
    | zero => rw [c0]; exact hvc
    | succ n ih =>
      have M := mt_pp_M h5 hv n
      have PM := mt_prod_M h5 M hv
      have P : mt_eq H (mt_prod H (mt_pp H v n) v) (mt_prod H (bf_f (cu n)) (bf_f c)) := fun e e0 e1 => by
        unfold mt_prod
        rw [mt_eq_out ih hvc _ _ (mt_s_all e0 e1).1]
      intro e e0 e1
      show mt_both H (mt_pp H v n) v e = _
      rw [mt_eq_both h5 e e0 e1, cs n, DE _ PM e e0 e1]
      unfold bf_pr
      rw [bf_cd_c (2 * H) (fun x hx => by rw [P x (by omega) (by omega)])]
  exact ⟨a, m, am, by omega, fun x x0 x1 => by rw [E a x x0 x1, E m x x0 x1, e]⟩
theorem mq_64_p : mq_64 := fun h v h2 h5 hv d => by
  obtain ⟨a, m, am, m8, e⟩ := mq_8_p h2 h5 hv
  exact d a m am (by omega) e
/-- the first power that has come before is one of the first nine -/
theorem mq_8 {h : Int} {v : Int → Int} {n : Nat} (h2 : 2 ≤ h) (h5 : h ≤ 5) (hv : mt_M h v) (d : mq_d h v n) : n ≤ 8 := by
  obtain ⟨a, m, am, m8, e⟩ := mq_8_p h2 h5 hv
  rcases Nat.lt_or_ge 8 n with z | z
  · exact absurd e (d a m am (by omega))
  · exact z
/-! how many loops the powers leave: no long is left -/
theorem mt_rs_lb2 {h : Int} {a b : Int → Int} (l0 : 0 ≤ a 20 + b 20) (l1 : a 20 + b 20 ≤ 100000000000000000) : ∀ n : Nat, n ≤ 5 → a 20 + b 20 ≤ (mt_rs h a b n).2.1 ∧ (mt_rs h a b n).2.1 ≤ a 20 + b 20 + n := by
  intro n
  induction n with
  | zero =>
    intro _
    show a 20 + b 20 ≤ w64 (a 20 + b 20) ∧ w64 (a 20 + b 20) ≤ _
    rw [w64_id ⟨by omega, by omega⟩]; omega
  | succ n ih =>
    intro hn
    obtain ⟨i1, i2⟩ := ih (by omega)
    unfold mt_rs
    split
    · show a 20 + b 20 ≤ w64 ((mt_rs h a b n).2.1 + 1) ∧ w64 ((mt_rs h a b n).2.1 + 1) ≤ _
      rw [w64_id ⟨by omega, by omega⟩]; omega
    · omega
/-- power n + 1 leaves at least n + 1 times what v leaves, and not much more -/
theorem mt_pp_20 {h : Int} {v : Int → Int} (h0 : 0 ≤ h) (h5 : h ≤ 5) (v0 : 0 ≤ v 20) (v1 : v 20 ≤ 5000000000000) : ∀ n : Nat, n ≤ 2000 → (n + 1) * v 20 ≤ mt_pp h v n 20 ∧ mt_pp h v n 20 ≤ (n + 1) * v 20 + 5 * n := by
  intro n
  induction n with
  | zero => intro _; show ((0 : Nat) + 1 : Int) * v 20 ≤ v 20 ∧ v 20 ≤ ((0 : Nat) + 1 : Int) * v 20 + 5 * (0 : Nat); omega
  | succ n ih =>
    intro hn
    obtain ⟨i1, i2⟩ := ih (by omega)
    have a := Int.mul_le_mul_of_nonneg_right (show (n : Int) + 1 ≤ 2001 by omega) v0
    have b := Int.mul_nonneg (show (0 : Int) ≤ (n : Int) + 1 by omega) v0
    have e : (((n + 1 : Nat) : Int) + 1) * v 20 = ((n : Int) + 1) * v 20 + v 20 := by rw [show ((n + 1 : Nat) : Int) = (n : Int) + 1 by omega, Int.add_mul ((n : Int) + 1) 1 (v 20), Int.one_mul]
    have := mt_rs_lb2 (h := h) (a := mt_pp h v n) (b := v) (by omega) (by omega) h.toNat (by omega)
    show _ ≤ mt_both h (mt_pp h v n) v 20 ∧ mt_both h (mt_pp h v n) v 20 ≤ _
    rw [mt_both_20, e]
    omega
/-- what a power leaves closed, as a number: between 0 and 10^17, and it doesn't fall -/
theorem mt_plo_r {h : Int} {v cl : Int → Int} (h0 : 0 ≤ h) (h5 : h ≤ 5) (hv : mt_M h v) (hc : mt_M h cl) (v0 : 0 ≤ v 20) (v1 : v 20 ≤ 5000000000000) {n : Nat} (hn : n ≤ 2000) : mt_plo h v cl n = mt_pp h v n 20 + mt_cl h (mt_pp h v n) cl ∧ 0 ≤ mt_plo h v cl n ∧ mt_plo h v cl n ≤ 20000000000000000 := by
  obtain ⟨i1, i2⟩ := mt_pp_20 h0 h5 v0 v1 n hn
  have a := Int.mul_le_mul_of_nonneg_right (show (n : Int) + 1 ≤ 2001 by omega) v0
  have b := Int.mul_nonneg (show (0 : Int) ≤ (n : Int) + 1 by omega) v0
  have c := mt_cl_r h0 h5 (mt_pp_M h5 hv n) hc
  unfold mt_plo
  rw [w64_id ⟨by omega, by omega⟩]
  omega
theorem mt_pp_m {h : Int} {v : Int → Int} (h0 : 0 ≤ h) (h5 : h ≤ 5) (v0 : 0 ≤ v 20) (v1 : v 20 ≤ 5000000000000) {n : Nat} : ∀ k : Nat, n + k ≤ 2000 → mt_pp h v n 20 ≤ mt_pp h v (n + k) 20 := by
  intro k
  induction k with
  | zero => intro _; exact Int.le_refl _
  | succ k ih =>
    intro hn
    have i := ih (by omega)
    obtain ⟨i1, i2⟩ := mt_pp_20 h0 h5 v0 v1 (n + k) (by omega)
    have a := Int.mul_le_mul_of_nonneg_right (show ((n + k : Nat) : Int) + 1 ≤ 2001 by omega) v0
    have b := Int.mul_nonneg (show (0 : Int) ≤ ((n + k : Nat) : Int) + 1 by omega) v0
    have := mt_rs_lb2 (h := h) (a := mt_pp h v (n + k)) (b := v) (by omega) (by omega) h.toNat (by omega)
    show _ ≤ mt_both h (mt_pp h v (n + k)) v 20
    rw [mt_both_20]
    omega
/-- from a power that comes again on, what is left grows by the same, which is no less than 0 -/
theorem mt_plo_g {h : Int} {v cl : Int → Int} (h0 : 0 ≤ h) (h5 : h ≤ 5) (hv : mt_M h v) (ov : mt_ok h v) (hc : mt_M h cl) (v0 : 0 ≤ v 20) (v1 : v 20 ≤ 5000000000000) {a b : Nat} (ab : a ≤ b) (e : mt_eq h (mt_pp h v a) (mt_pp h v b)) (k : Nat) (hb : b + k ≤ 2000) : mt_plo h v cl (b + k) = mt_plo h v cl (a + k) + (mt_plo h v cl b - mt_plo h v cl a) ∧ mt_plo h v cl a ≤ mt_plo h v cl b := by
  have d := mt_lo_d h0 h5 hv ov hc e k
  obtain ⟨a1, a2, a3⟩ := mt_plo_r h0 h5 hv hc v0 v1 (show a ≤ 2000 by omega)
  obtain ⟨b1, b2, b3⟩ := mt_plo_r h0 h5 hv hc v0 v1 (show b ≤ 2000 by omega)
  obtain ⟨c1, c2, c3⟩ := mt_plo_r h0 h5 hv hc v0 v1 (show a + k ≤ 2000 by omega)
  obtain ⟨d1, d2, d3⟩ := mt_plo_r h0 h5 hv hc v0 v1 (show b + k ≤ 2000 by omega)
  rw [w64_id ⟨by omega, by omega⟩, w64_id ⟨by omega, by omega⟩] at d
  refine ⟨by omega, ?_⟩
  have m := mt_pp_m h0 h5 v0 v1 (n := a) (b - a) (by omega)
  rw [show a + (b - a) = b by omega] at m
  have cc := mt_cl_c h0 (mt_pp_M h5 hv a) hc e
  omega
/-- some rounds on -/
theorem mt_plo_j {h : Int} {v cl : Int → Int} (h0 : 0 ≤ h) (h5 : h ≤ 5) (hv : mt_M h v) (ov : mt_ok h v) (hc : mt_M h cl) (v0 : 0 ≤ v 20) (v1 : v 20 ≤ 5000000000000) {a b : Nat} (ab : a ≤ b) (e : mt_eq h (mt_pp h v a) (mt_pp h v b)) (k : Nat) : ∀ j : Nat, a + k + j * (b - a) ≤ 2000 → mt_plo h v cl (a + k + j * (b - a)) = mt_plo h v cl (a + k) + j * (mt_plo h v cl b - mt_plo h v cl a) := by
  intro j
  induction j with
  | zero => intro _; rw [Nat.zero_mul, Nat.add_zero]; simp
  | succ j ih =>
    intro hj
    have ej : (j + 1) * (b - a) = j * (b - a) + (b - a) := by rw [Nat.add_mul, Nat.one_mul]
    have g := (mt_plo_g h0 h5 hv ov hc v0 v1 ab e (k + j * (b - a)) (by omega)).1
    rw [show a + k + (j + 1) * (b - a) = b + (k + j * (b - a)) by omega, g, show a + (k + j * (b - a)) = a + k + j * (b - a) by omega, ih (by omega), show ((j + 1 : Nat) : Int) = (j : Int) + 1 by omega, Int.add_mul, Int.one_mul]
    omega
/-! left: both sides answer alike -/
def mq_lv (h : Int) (v cl : Int → Int) (a n : Nat) (x : Int) : Int := min mt_top (if x ≤ a then mt_plo h v cl (x - 1).toNat else mt_plo h v cl (a + ((x - 1 - a) % (n - a)).toNat) + ((x - 1 - a) / (n - a)) * (mt_plo h v cl n - mt_plo h v cl a))
theorem s_loopsOf_x {Q : Int → ml_St → Prop} {h x : Int} {v cl : Int → Int} {a n : Nat} {σ : ml_St} (h0 : 0 ≤ h) (h5 : h ≤ 5) (hv : mt_M h v) (ov : mt_ok h v) (hc : mt_M h cl) (v0 : 0 ≤ v 20) (v1 : v 20 ≤ 5000000000000) (p : mq_q h v cl a n σ) (x1 : 1 ≤ x) (x2 : x ≤ 1000000000000000000) (k : Q (mq_lv h v cl a n x) σ) : f_X6_loopsOf σ x Q := by
  obtain ⟨p1, p2, p3, p4, p5, p6, p7, p8⟩ := p
  have g0 := (mt_plo_g h0 h5 hv ov hc v0 v1 (Nat.le_of_lt p1) p7 0 (by omega)).2
  obtain ⟨b1, b2, b3⟩ := mt_plo_r h0 h5 hv hc v0 v1 (show a ≤ 2000 by omega)
  obtain ⟨c1, c2, c3⟩ := mt_plo_r h0 h5 hv hc v0 v1 (show n ≤ 2000 by omega)
  rw [w64_id ⟨by omega, by omega⟩] at p5
  have g1 : 0 ≤ mt_plo h v cl n - mt_plo h v cl a ∧ mt_plo h v cl n - mt_plo h v cl a ≤ 20000000000000000 := by omega
  unfold mq_lv mt_top at k
  unfold f_X6_loopsOf f_X6_loopsOf_u0
  rw [p3, p4]
  refine fun _ => ⟨fun q _ _ => ⟨by omega, fun y7 e7 _ _ _ => ⟨by omega, ?_⟩⟩, fun q => ?_⟩
  · have ex : x - ((a : Int) + 1) = x - 1 - a := by omega
    have e1 : w64 (x - (a + 1)) = x - 1 - a := by rw [ex]; exact w64_id ⟨by omega, by omega⟩
    have tm : Int.tmod (x - 1 - a) (n - a) = (x - 1 - a) % (n - a) := Int.tmod_eq_emod_of_nonneg (by omega)
    have td : Int.tdiv (x - 1 - a) (n - a) = (x - 1 - a) / (n - a) := Int.tdiv_eq_ediv_of_nonneg (by omega)
    have m0 := Int.emod_nonneg (x - 1 - a) (show (n : Int) - a ≠ 0 by omega)
    have m1 := Int.emod_lt_of_pos (x - 1 - a) (show 0 < (n : Int) - a by omega)
    have d0 := Int.ediv_nonneg (show 0 ≤ x - 1 - a by omega) (show 0 ≤ (n : Int) - a by omega)
    have d1 := Int.ediv_le_self ((n : Int) - a) (show 0 ≤ x - 1 - a by omega)
    rw [e1, td, w64_id ⟨by omega, by omega⟩] at e7
    rw [e1, tm, mb_l2i2 (by omega) (by omega)]
    rw [if_neg (by omega)] at k
    generalize (x - 1 - (a : Int)) % (n - a) = r at *
    generalize (x - 1 - (a : Int)) / (n - a) = y at *
    have el := p6 (a + r.toNat) (by omega)
    rw [show ((a + r.toNat : Nat) : Int) + 1 = a + 1 + r by omega] at el
    obtain ⟨f1, f2, f3⟩ := mt_plo_r h0 h5 hv hc v0 v1 (show a + r.toNat ≤ 2000 by omega)
    rw [el, p5]
    generalize mt_plo h v cl (a + r.toNat) = u at *
    generalize mt_plo h v cl n - mt_plo h v cl a = g at *
    subst e7
    refine ⟨mt_I (by omega) (by omega), by omega, by omega, fun _ y15 e15 _ => ?_⟩
    subst e15
    unfold f_X6_loopsOf_u87
    rw [p5]
    refine ⟨fun z _ => ?_, fun z _ => ⟨by omega, ?_⟩⟩
    · have : g = 0 := by omega
      subst this
      rw [Int.mul_zero, w64_id (x := 0) ⟨by omega, by omega⟩, w64_id ⟨by omega, by omega⟩]
      rw [Int.mul_zero] at k
      rw [show min 9000000000000000000 (y15 + 0) = y15 + 0 by omega] at k
      exact k
    · have e2 : w64 (9000000000000000000 - y15) = 9000000000000000000 - y15 := w64_id ⟨by omega, by omega⟩
      have t2 : Int.tdiv (9000000000000000000 - y15) g = (9000000000000000000 - y15) / g := Int.tdiv_eq_ediv_of_nonneg (by omega)
      have q0 := Int.ediv_nonneg (show 0 ≤ 9000000000000000000 - y15 by omega) (show 0 ≤ g by omega)
      have q1 := Int.ediv_le_self g (show 0 ≤ 9000000000000000000 - y15 by omega)
      have iff := Int.le_ediv_iff_mul_le (a := y7) (b := 9000000000000000000 - y15) (show 0 < g by omega)
      have yg := Int.mul_nonneg d0 (show 0 ≤ g by omega)
      rw [e2, t2, w64_id ⟨by omega, by omega⟩]
      refine ⟨fun c _ => ?_, fun c => ?_⟩
      · have := iff.1 c
        rw [w64_id (x := y7 * g) ⟨by omega, by omega⟩, w64_id ⟨by omega, by omega⟩]
        rw [show min 9000000000000000000 (y15 + y7 * g) = y15 + y7 * g by omega] at k
        exact k
      · have : ¬ y7 * g ≤ 9000000000000000000 - y15 := fun z => c (iff.2 z)
        rw [show min 9000000000000000000 (y15 + y7 * g) = 9000000000000000000 by omega] at k
        exact k
  · rw [mb_l2i2 (by omega) (by omega)]
    rw [if_pos (by omega)] at k
    have el := p6 (x - 1).toNat (by omega)
    rw [show (((x - 1).toNat : Nat) : Int) + 1 = x by omega] at el
    obtain ⟨f1, f2, f3⟩ := mt_plo_r h0 h5 hv hc v0 v1 (show (x - 1).toNat ≤ 2000 by omega)
    rw [el]
    rw [show min 9000000000000000000 (mt_plo h v cl (x - 1).toNat) = mt_plo h v cl (x - 1).toNat by omega] at k
    exact ⟨by omega, by omega, fun _ => k⟩
/-! left, of the class and of the model -/
theorem c_left_x {Q : Int → ml_St → Prop} {h told ts cap w x : Int} {tb cl pr sz : Int → Int} {T : Int → Int → Int} {σ0 : ml_St} (nb : mq_64) (i : IC h told ts cap tb cl pr sz T σ0) (k1 : mt_md told (mt_mk h T sz) w → 1 ≤ x → x ≤ 1000000000000000000 → ∀ σ (a n : Nat), IC h told ts cap tb cl pr sz T σ → (∀ j, 215 ≤ j → σ j = σ0 j) → mq_q h (mt_mk h T sz w) cl a n σ → Q (mq_lv h (mt_mk h T sz w) cl a n x) σ) (k0 : ¬ (mt_md told (mt_mk h T sz) w ∧ 1 ≤ x ∧ x ≤ 1000000000000000000) → Q (-1) σ0) : f_X11_left σ0 w x Q := by
  have t16 := i.1.2.2.2.2.2
  unfold f_X11_left f_X11_left_u0
  unfold f_X11_left_u15
  refine c_isMade i (fun q _ => ⟨fun z => absurd z (by omega), fun _ => s_isPower (fun x1 x2 _ => ⟨fun _ => ⟨q.1, by have := q.2.1; omega, fun _ => ?_⟩, fun z => absurd z (by omega)⟩) (fun q2 _ => ⟨fun z => absurd rfl z, fun _ => k0 (fun z => q2 z.2)⟩)⟩) (fun q _ => ⟨fun _ => k0 (fun z => q z.1), fun z => absurd rfl z⟩)
  obtain ⟨g1, g2, g3, g4⟩ := IC_w i q.1 q.2.1
  have c := i.2.2.1
  have cv := IC_cv i q.1 q.2.1
  have b20 := mq_20 cv q.2.2
  have h2 := i.1.2.2.1
  have h5 := i.1.2.2.2.1
  rw [i.1.1, show 119 + 6 * w + 2 = 121 + 6 * w by omega]
  refine s_study_x h2 h5 (Or.inr (by have := q.1; omega)) (by have := q.1; omega) g3 g2 c.2.2.2.1 c.2.2.1 (nb h _ h2 h5 g3) (fun σ a n f p => ?_)
  exact s_loopsOf_x (by omega) h5 g3 g4 c.2.2.2.1 b20.1 b20.2 p x1 x2 (fun _ => k1 q x1 x2 σ a n (IC_kp (mt_f46_kp f) i) (mt_kp_m (mt_f46_kp f)) p)
theorem m_left_x {Q : Int → ml_St → Prop} {h told ts cap w x : Int} {tb cl pr sz : Int → Int} {T : Int → Int → Int} {τ : ml_St} (i : IM h told ts cap tb cl pr sz T τ) (k1 : mt_md told (mt_mk h T sz) w → 1 ≤ x → x ≤ 1000000000000000000 → ∀ σ (a n : Nat), IM h told ts cap tb cl pr sz T σ → (∀ j, j < 215 → σ j = τ j) → mq_p h (mt_mk h T sz w) cl a n σ → Q (mq_lv h (mt_mk h T sz w) cl a n x) σ) (k0 : ¬ (mt_md told (mt_mk h T sz) w ∧ 1 ≤ x ∧ x ≤ 1000000000000000000) → Q (-1) τ) : f_X12_left τ w x Q := by
  have h2 := i.1.2.2.1
  have h5 := i.1.2.2.2.1
  unfold f_X12_left f_X12_left_u0
  unfold f_X12_left_u15
  refine m_isMade i (fun q _ => ⟨fun z => absurd z (by omega), fun _ => s_isPower12 (fun x0 x1 _ => ⟨fun _ => m_powers i q (fun σ a n i' j' p => ?_), fun z => absurd z (by omega)⟩) (fun q2 _ => ⟨fun z => absurd rfl z, fun _ => k0 (fun z => q2 z.2)⟩)⟩) (fun q _ => ⟨fun _ => k0 (fun z => q z.1), fun z => absurd rfl z⟩)
  have kk := k1 q x0 x1 σ a n i' j' p
  obtain ⟨g1, hv, ov, g4, g5⟩ := IM_w i q
  have hc := i.2.2.1.2.2.2
  obtain ⟨v0, v1⟩ := mq_20 (IM_cv i q.1 q.2.1).1 q.2.2
  generalize mt_mk h T sz w = v at *
  obtain ⟨p1, p2, p3, p4, p5, p6, p7, p8, p9⟩ := p
  have gg := (mt_plo_g (by omega) h5 hv ov hc v0 v1 (Nat.le_of_lt p1) p8 0 (by omega)).2
  obtain ⟨b1, b2, b3⟩ := mt_plo_r (by omega) h5 hv hc v0 v1 (show a ≤ 2000 by omega)
  obtain ⟨c1, c2, c3⟩ := mt_plo_r (by omega) h5 hv hc v0 v1 (show n ≤ 2000 by omega)
  have gr : 0 ≤ mt_plo h v cl n - mt_plo h v cl a ∧ mt_plo h v cl n - mt_plo h v cl a ≤ 20000000000000000 := by omega
  rw [w64_id ⟨by omega, by omega⟩] at p6
  have m0 := Int.emod_nonneg (x - 1 - a) (show (n : Int) - a ≠ 0 by omega)
  have m1 := Int.emod_lt_of_pos (x - 1 - a) (show 0 < (n : Int) - a by omega)
  have md := Int.mul_ediv_add_emod (x - 1 - a) ((n : Int) - a)
  rw [p3, p4, p5, p6]
  unfold mq_lv at kk
  refine fun _ => ⟨fun c _ _ _ => ?_, fun c => ?_⟩
  · rw [if_neg (by omega)] at kk
    have ex : x - ((a : Int) + 1) = x - 1 - a := by omega
    have e1 : w64 (x - (a + 1)) = x - 1 - a := by rw [ex]; exact w64_id ⟨by omega, by omega⟩
    have tm : Int.tmod (x - 1 - a) (n - a) = (x - 1 - a) % (n - a) := Int.tmod_eq_emod_of_nonneg (by omega)
    have d0 := Int.ediv_nonneg (show 0 ≤ x - 1 - a by omega) (show 0 ≤ (n : Int) - a by omega)
    have d1 := Int.ediv_le_self ((n : Int) - a) (show 0 ≤ x - 1 - a by omega)
    rw [e1, tm, mb_l2i2 (by omega) (by omega)]
    generalize (x - 1 - (a : Int)) % (n - a) = r at *
    generalize (x - 1 - (a : Int)) / (n - a) = y at *
    refine ⟨by omega, mt_I (by omega) (by omega), fun y14 e14 => ⟨by omega, by omega, ?_⟩⟩
    have el := p7 (a + r.toNat) (by omega)
    rw [show ((a + r.toNat : Nat) : Int) + 1 = y14 by omega] at el
    obtain ⟨f1, f2, f3⟩ := mt_plo_r (by omega) h5 hv hc v0 v1 (show a + r.toNat ≤ 2000 by omega)
    rw [el]
    have e2 : w64 (x - y14) = (n - a) * y := by
      rw [w64_id ⟨by omega, by omega⟩]; omega
    have e3 : Int.tdiv ((n - a) * y) (n - a) = y := by
      rw [Int.tdiv_eq_ediv_of_nonneg (Int.mul_nonneg (by omega) d0)]
      exact Int.mul_ediv_cancel_left y (by omega)
    rw [e2, e3, w64_id (x := y) ⟨by omega, by omega⟩]
    refine fun _ _ => ⟨by omega, fun _ => s_times (x := y) (by unfold mt_top; omega) d0 gr.1 (fun _ _ => s_plus (x := mt_plo h v cl (a + r.toNat)) (y := (mt_plo h v cl n - mt_plo h v cl a) * y) (by unfold mt_top; omega) rfl f2 (Int.mul_nonneg gr.1 d0) (fun _ _ => ?_))⟩
    rw [Int.mul_comm]; exact kk
  · rw [mb_l2i2 (by omega) (by omega)]
    have el := p7 (x - 1).toNat (by omega)
    rw [show (((x - 1).toNat : Nat) : Int) + 1 = x by omega] at el
    obtain ⟨f1, f2, f3⟩ := mt_plo_r (by omega) h5 hv hc v0 v1 (show (x - 1).toNat ≤ 2000 by omega)
    rw [el]
    refine ⟨by omega, by omega, fun _ => ?_⟩
    by_cases z : x ≤ a
    · rw [if_pos z, show min mt_top (mt_plo h v cl (x - 1).toNat) = mt_plo h v cl (x - 1).toNat by unfold mt_top; omega] at kk
      exact kk
    · rw [if_neg z] at kk
      have d0 := Int.ediv_nonneg (show 0 ≤ x - 1 - a by omega) (show 0 ≤ (n : Int) - a by omega)
      generalize (x - 1 - (a : Int)) % (n - a) = r at *
      generalize (x - 1 - (a : Int)) / (n - a) = y at *
      have ey : ((y.toNat * (n - a) : Nat) : Int) = (n - a) * y := by
        rw [Int.natCast_mul, show ((n - a : Nat) : Int) = (n : Int) - a by omega, show ((y.toNat : Nat) : Int) = y by omega, Int.mul_comm]
      have j := mt_plo_j (by omega) h5 hv ov hc v0 v1 (Nat.le_of_lt p1) p8 r.toNat y.toNat (by omega)
      rw [show a + r.toNat + y.toNat * (n - a) = (x - 1).toNat by omega, show ((y.toNat : Nat) : Int) = y by omega] at j
      rw [← j, show min mt_top (mt_plo h v cl (x - 1).toNat) = mt_plo h v cl (x - 1).toNat by unfold mt_top; omega] at kk
      exact kk
