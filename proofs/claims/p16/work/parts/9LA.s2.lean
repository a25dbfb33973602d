/-! the class: what study finds, exactly, where a power comes again among the first 64 -/
def mq_q (h : Int) (v cl : Int → Int) (a n : Nat) (σ : ml_St) : Prop := a < n ∧ n ≤ 63 ∧ σ 46 4 = a + 1 ∧ σ 46 5 = n - a ∧ σ 46 6 = w64 (mt_plo h v cl n - mt_plo h v cl a) ∧ (∀ i : Nat, i ≤ n → σ 48 (i + 1) = mt_plo h v cl i) ∧ mt_eq h (mt_pp h v a) (mt_pp h v n) ∧ mq_d h v n
theorem mq_u {h : Int} {v : Int → Int} {a n a' n' : Nat} (h1 : a < n) (e : mt_eq h (mt_pp h v a) (mt_pp h v n)) (d : mq_d h v n) (h1' : a' < n') (e' : mt_eq h (mt_pp h v a') (mt_pp h v n')) (d' : mq_d h v n') : a = a' ∧ n = n' := by
  have sy : ∀ {f g : Int → Int}, mt_eq h f g → mt_eq h g f := fun e x x0 x1 => (e x x0 x1).symm
  have tr : ∀ {f g k : Int → Int}, mt_eq h f g → mt_eq h g k → mt_eq h f k := fun e e2 x x0 x1 => (e x x0 x1).trans (e2 x x0 x1)
  have n1 : n = n' := by
    rcases Nat.lt_trichotomy n n' with z | z | z
    · exact absurd e (d' a n h1 z)
    · exact z
    · exact absurd e' (d a' n' h1' z)
  subst n1
  refine ⟨?_, rfl⟩
  rcases Nat.lt_trichotomy a a' with z | z | z
  · exact absurd (tr e (sy e')) (d a a' z h1')
  · exact z
  · exact absurd (tr e' (sy e)) (d a' a z h1)
theorem mt_nm_c {f g : Int → Int} : ∀ (k e o s : Nat), (∀ x : Nat, e ≤ x → x < e + k → f x = g x) → mt_nm f k e o s = mt_nm g k e o s := by
  intro k
  induction k with
  | zero => intro e o s _; rfl
  | succ k ih =>
    intro e o s h
    have i := fun o s => ih (e + 1) o s (fun x h1 h2 => h x (by omega) (by omega))
    unfold mt_nm
    rw [h e (by omega) (by omega), i, i]
theorem mt_num_c {h : Int} {f g : Int → Int} (h2 : 2 ≤ h) (h5 : h ≤ 5) (hf : mt_M h f) (e : mt_eq h f g) : mt_num h f = mt_num h g := by
  unfold mt_num
  exact mt_nm_c _ _ _ _ (fun x _ h2 => e x (by omega) (by omega))
theorem s_study_x {Q : ml_St → Prop} {p h : Int} {σ0 : ml_St} {v cl : Int → Int} (h2 : 2 ≤ h) (h5 : h ≤ 5) (pd : p + 3 ≤ 46 ∨ 55 ≤ p) (p5 : 5 < p) (hv : mt_M h v) (wv : mt_wv h σ0 p v) (hc : mt_M h cl) (ec : mt_eq h (σ0 5) cl) (nb : ¬ mq_d h v 64) (k : ∀ σ (a n : Nat), mt_f46 σ0 σ → mq_q h v cl a n σ → Q σ) : f_X6_study σ0 p h Q := by
  have M := fun n => mt_pp_M h5 hv n
  have NE : ∀ i j : Nat, mt_num h (mt_pp h v i) = mt_num h (mt_pp h v j) → mt_eq h (mt_pp h v i) (mt_pp h v j) := fun i j => mt_num_inj h2 h5 (M i) (M j)
  have EN : ∀ i j : Nat, mt_eq h (mt_pp h v i) (mt_pp h v j) → mt_num h (mt_pp h v i) = mt_num h (mt_pp h v j) := fun i j e => mt_num_c h2 h5 (M i) e
  have KE : ∀ (σ : ml_St) (a n : Nat), mt_f46 σ0 σ → a < n → n ≤ 63 → σ 46 4 = a + 1 → σ 46 5 = n - a → (∀ i : Nat, i ≤ n → σ 48 (i + 1) = mt_plo h v cl i) → mt_eq h (mt_pp h v a) (mt_pp h v n) → mq_d h v n → f_X6_study_u168 Q p σ := by
    intro σ a n f an n6 e1 e2 el ee dd
    unfold f_X6_study_u168
    have x1 := el n (Nat.le_refl n)
    have x2 := el a (by omega)
    rw [e1, e2, show (a : Int) + 1 + (n - a) = n + 1 by omega, x1, x2]
    refine fun _ _ => ⟨mt_i (by omega) (by omega), by omega, by omega, fun _ _ => ⟨by omega, by omega, fun _ σ8 s8 => ?_⟩⟩
    exact k σ8 a n (mt_f46_t f (by rw [s8]; exact mt_f46_up (by omega) (by omega))) ⟨an, n6, by rw [s8, ml_up_i (by omega), e1], by rw [s8, ml_up_i (by omega), e2], by rw [s8, ml_up_same], fun i hi => by rw [s8, ml_up_k (by omega)]; exact el i hi, ee, dd⟩
  have L : ∀ (N : Nat) (n : Nat) (σ : ml_St) (u : Int → Int), n ≤ 63 → 65 - (n : Int) < N → mt_f46 σ0 σ → (n = 0 → u = mt_pp h v 0) → (n ≠ 0 → u = mt_pp h v (n - 1)) → mt_wv h σ 49 u → (∀ i : Nat, i < n → σ 48 (i + 1) = mt_plo h v cl i) → (∀ i : Nat, i < n → σ 47 (i + 1) = mt_num h (mt_pp h v i)) → mq_d h v n → f_X6_study_u24 Q (f_X6_study_u168 Q p) p N σ h 0 (n + 1) := by
    intro N
    induction N with
    | zero => intro n σ u n1 hN; omega
    | succ N ih =>
      intro n σ u n6 hN f hu0 hu1 wu el en dd
      unfold f_X6_study_u24
      refine ⟨fun c => absurd c (by omega), fun c => ⟨fun c => absurd rfl c, fun _ => ?_⟩⟩
      have U66 : ∀ (σ : ml_St), mt_f46 σ0 σ → mt_wv h σ 49 (mt_pp h v n) → (∀ i : Nat, i < n → σ 48 (i + 1) = mt_plo h v cl i) → (∀ i : Nat, i < n → σ 47 (i + 1) = mt_num h (mt_pp h v i)) → f_X6_study_u66 Q (f_X6_study_u24 Q (f_X6_study_u168 Q p) p N) p σ h 0 (n + 1) := by
        intro σ f wu el en
        unfold f_X6_study_u66
        refine s_number h2 h5 (M n) (mt_eq_wa wu).1 (fun _ => ⟨by omega, by omega, fun σ2 s2 _ => ?_⟩)
        have k2 : ∀ j, j ≠ 47 → σ2 j = σ j := fun j hj => by rw [s2, ml_up_k hj]
        refine s_loopsBy (α := mt_pp h v n) (β := cl) h2 h5 (M n) hc (fun e e0 e1 => by rw [k2 _ (by omega)]; exact (wu.1 e e0 e1).1) (fun e e0 e1 => by rw [k2 _ (by omega), f 5 (by omega)]; exact ec e e0 e1) ?_
        refine fun _ => ⟨by omega, by omega, fun σ6 s6 => ⟨n + 1, ?_⟩⟩
        have w20 : σ2 49 2 = mt_pp h v n 20 := by rw [k2 49 (by omega)]; exact wu.2.1
        rw [w20] at s6
        have k6 : ∀ j, j ≠ 47 → j ≠ 48 → σ6 j = σ j := fun j h1 h3 => by rw [s6, ml_up_k h3, k2 j h1]
        have f6 : mt_f46 σ0 σ6 := fun j hj => by rw [k6 j (by omega) (by omega), f j hj]
        have w6 : mt_wv h σ6 49 (mt_pp h v n) := mt_wv_eq (k6 _ (by omega) (by omega)) (k6 _ (by omega) (by omega)) (k6 _ (by omega) (by omega)) wu
        have l6 : ∀ i : Nat, i < n + 1 → σ6 48 (i + 1) = mt_plo h v cl i := fun i hi => by
          rw [s6]
          by_cases z : i = n
          · subst z; rw [ml_up_same]; rfl
          · rw [ml_up_i (by omega), k2 48 (by omega)]; exact el i (by omega)
        have n6' : ∀ i : Nat, i < n + 1 → σ6 47 (i + 1) = mt_num h (mt_pp h v i) := fun i hi => by
          rw [s6, ml_up_k (by omega), s2]
          by_cases z : i = n
          · subst z; rw [ml_up_same]
          · rw [ml_up_i (by omega)]; exact en i (by omega)
        have I : ∀ (M' : Nat) (j : Nat), j ≤ n → n - j < M' → (∀ i : Nat, i < j → ¬ mt_eq h (mt_pp h v i) (mt_pp h v n)) → f_X6_study_u109 Q (f_X6_study_u162 Q (f_X6_study_u24 Q (f_X6_study_u168 Q p) p N) p) p M' σ6 h 0 (n + 1) (j + 1) := by
          intro M'
          induction M' with
          | zero => intro j j1 hM; omega
          | succ M' ihM =>
            intro j j1 hM dj
            unfold f_X6_study_u109
            refine ⟨fun c3 => ?_, fun c3 => ⟨fun c => absurd rfl c, fun _ => ⟨by omega, by omega, fun _ => ⟨by omega, by omega, fun _ => ?_⟩⟩⟩⟩
            · have ej : j = n := by omega
              subst ej
              have d' : mq_d h v (j + 1) := fun x y xy yj => by
                by_cases z : y = j
                · subst z; exact dj x xy
                · exact dd x y xy (by omega)
              have j6 : j ≠ 63 := fun z => nb (by rw [← show j + 1 = 64 by omega]; exact d')
              unfold f_X6_study_u162
              refine ⟨mt_i (by omega) (by omega), fun y1 e1 => ?_⟩
              have e1 : y1 = ((j + 1 : Nat) : Int) + 1 := by omega
              subst e1
              exact ih (j + 1) σ6 (mt_pp h v j) (by omega) (by omega) f6 (fun z => absurd z (by omega)) (fun _ => by rw [show j + 1 - 1 = j by omega]) w6 l6 n6' d'
            · rw [n6' j (by omega), n6' n (by omega)]
              refine ⟨fun ne => ?_, fun eq σ7 s7 => ⟨mt_i (by omega) (by omega), fun σ8 s8 => ?_⟩⟩
              · unfold f_X6_study_u156
                refine ⟨mt_i (by omega) (by omega), fun y1 e1 => ?_⟩
                have e1 : y1 = ((j + 1 : Nat) : Int) + 1 := by omega
                subst e1
                refine ihM (j + 1) (by omega) (by omega) (fun i hi => ?_)
                by_cases z : i = j
                · subst z; exact fun e => ne (by rw [EN i n e])
                · exact dj i (by omega)
              · have ee := NE j n (by omega)
                unfold f_X6_study_u156
                refine ⟨mt_i (by omega) (by omega), fun y1 e1 => ?_⟩
                have k8 : ∀ j, j ≠ 46 → σ8 j = σ6 j := fun j hj => by rw [s8, ml_up_k hj, s7, ml_up_k hj]
                have fin : f_X6_study_u162 Q (f_X6_study_u24 Q (f_X6_study_u168 Q p) p N) p σ8 h 1 (n + 1) := by
                  unfold f_X6_study_u162
                  refine ⟨mt_i (by omega) (by omega), fun y2 e2 => ?_⟩
                  obtain ⟨N', rfl⟩ : ∃ N', N = N' + 1 := ⟨N - 1, by omega⟩
                  have fk : f_X6_study_u168 Q p σ8 := KE σ8 j n (fun x hx => by rw [k8 x (by omega), f6 x hx]) (by omega) (by omega) (by rw [s8, ml_up_i (by omega), s7, ml_up_same]) (by rw [s8, ml_up_same]; omega) (fun i hi => by rw [k8 48 (by omega)]; exact l6 i (by omega)) ee dd
                  unfold f_X6_study_u24
                  exact ⟨fun _ => fk, fun _ => ⟨fun _ => fk, fun z => absurd z (by omega)⟩⟩
                obtain ⟨M'', rfl⟩ : ∃ M'', M' = M'' + 1 := ⟨M' - 1, by omega⟩
                unfold f_X6_study_u109
                exact ⟨fun _ => fin, fun _ => ⟨fun _ => fin, fun z => absurd z (by omega)⟩⟩
        have := I (n + 1) 0 (by omega) (by omega) (fun i hi => absurd hi (by omega))
        exact this
      refine ⟨fun c3 => ?_, fun c3 => ?_⟩
      · have n0 : n = 0 := by omega
        have := hu0 n0
        subst n0
        rw [this] at wu
        exact U66 σ f wu el en
      · obtain ⟨n', rfl⟩ : ∃ n', n = n' + 1 := ⟨n - 1, by omega⟩
        have eu := hu1 (by omega)
        rw [show n' + 1 - 1 = n' by omega] at eu
        rw [eu] at wu
        have wv' : mt_wv h σ p v := mt_wv_eq (f _ (by omega)) (f _ (by omega)) (f _ (by omega)) wv
        refine s_beBoth h2 h5 (by omega) (by omega) (M n') hv wu wv' (fun σ4 f4 w4 => s_beLike h5 (by omega) w4 (fun σ5 f5 w5 => ?_))
        have ff : mt_f46 σ σ5 := mt_f46_t (mt_f46_fr (by omega) (by omega) f4) (mt_f46_fr (by omega) (by omega) f5)
        have o : ∀ j, j = 47 ∨ j = 48 → σ5 j = σ j := fun j hj => by rw [f5 j (by omega) (by omega) (by omega), f4 j (by omega) (by omega) (by omega)]
        exact U66 σ5 (mt_f46_t f ff) w5 (fun i hi => by rw [o 48 (by omega)]; exact el i hi) (fun i hi => by rw [o 47 (by omega)]; exact en i hi)
  unfold f_X6_study f_X6_study_u0
  intro σ1 s1 σ2 s2
  have f2 : mt_f46 σ0 σ2 := by rw [s2, s1]; exact mt_f46_t (mt_f46_up (by omega) (by omega)) (mt_f46_up (by omega) (by omega))
  refine s_beLike h5 (by omega) (mt_wv_eq (f2 _ (by omega)) (f2 _ (by omega)) (f2 _ (by omega)) wv) (fun σ3 f3 w3 => ⟨66, ?_⟩)
  have := L 66 0 σ3 v (by omega) (by omega) (mt_f46_t f2 (mt_f46_fr (by omega) (by omega) f3)) (fun _ => rfl) (fun z => absurd rfl z) w3 (fun i hi => absurd hi (by omega)) (fun i hi => absurd hi (by omega)) (fun i j _ hj => absurd hj (by omega))
  exact this
/-- some power comes again among the first 64 -/
def mq_64 : Prop := ∀ (h : Int) (v : Int → Int), 2 ≤ h → h ≤ 5 → mt_M h v → ¬ mq_d h v 64
theorem c_power_x {Q : Int → ml_St → Prop} {h told ts cap w x : Int} {tb cl pr sz : Int → Int} {T : Int → Int → Int} {σ0 : ml_St} (nb : mq_64) (i : IC h told ts cap tb cl pr sz T σ0) (k1 : mt_md told (mt_mk h T sz) w → 0 ≤ x → x ≤ 1 → ∀ σ (a n : Nat), IC h told ts cap tb cl pr sz T σ → (∀ j, 215 ≤ j → σ j = σ0 j) → mq_q h (mt_mk h T sz w) cl a n σ → Q (if x = 0 then (a : Int) + 1 else n - a) σ) (k0 : ¬ (mt_md told (mt_mk h T sz) w ∧ 0 ≤ x ∧ x ≤ 1) → Q (-1) σ0) : f_X11_power σ0 w x Q := by
  have t16 := i.1.2.2.2.2.2
  unfold f_X11_power f_X11_power_u0
  unfold f_X11_power_u17 f_X11_power_u64
  refine c_isMade i (fun q _ => ⟨fun z => absurd z (by omega), fun _ => ⟨fun _ => k0 (by omega), fun x0 => ⟨fun x1 => ⟨q.1, by have := q.2.1; omega, fun _ => ?_⟩, fun _ => k0 (by omega)⟩⟩⟩) (fun q _ => ⟨fun _ => k0 (fun z => q z.1), fun z => absurd rfl z⟩)
  obtain ⟨g1, g2, g3, g4⟩ := IC_w i q.1 q.2.1
  have c := i.2.2.1
  rw [i.1.1, show 119 + 6 * w + 2 = 121 + 6 * w by omega]
  refine s_study_x i.1.2.2.1 i.1.2.2.2.1 (Or.inr (by have := q.1; omega)) (by have := q.1; omega) g3 g2 c.2.2.2.1 c.2.2.1 (nb h _ i.1.2.2.1 i.1.2.2.2.1 g3) (fun σ a n f p => ?_)
  have k := k1 q (by omega) (by omega) σ a n (IC_kp (mt_f46_kp f) i) (mt_kp_m (mt_f46_kp f)) p
  rw [p.2.2.1, p.2.2.2.1]
  refine ⟨fun z _ => ?_, fun z _ => ?_⟩
  · rw [if_neg z] at k; exact k
  · rw [if_pos z] at k; exact k
/-! some power of a matching of at most 10 ends comes again soon: all 1068 matchings are gone through -/
def bf_get (c x : Nat) : Nat := c / 16 ^ x % 16
def bf_cd (f : Nat → Nat) : Nat → Nat
  | 0 => 0
  | n + 1 => bf_cd f n + f n * 16 ^ n
def bf_f (c : Nat) (e : Int) : Int := (bf_get c e.toNat : Nat)
def bf_pr (h u v : Nat) : Nat := bf_cd (fun e => (mt_prod h (bf_f u) (bf_f v) e).toNat) (2 * h)
def bf_t (h v : Nat) : Nat → List Nat → Nat → Bool
  | 0, _, _ => false
  | F + 1, seen, u => if seen.contains u then true else mb_fc (bf_pr h u v) (fun u' => bf_t h v F (u :: seen) u')
def bf_all (h : Nat) : Nat → List Nat → Nat → Bool
  | 0, _, _ => false
  | F + 1, free, c => match free with
    | [] => bf_t h c 8 [] c
    | e :: rest => rest.all (fun j => mb_fc (c + j * 16 ^ e + e * 16 ^ j) (fun c' => bf_all h F (rest.erase j) c'))
theorem bf_2 : bf_all 2 3 [0, 1, 2, 3] 0 = true := by decide +kernel
theorem bf_3 : bf_all 3 4 [0, 1, 2, 3, 4, 5] 0 = true := by decide +kernel
theorem bf_4 : bf_all 4 5 [0, 1, 2, 3, 4, 5, 6, 7] 0 = true := by decide +kernel
theorem bf_5 : bf_all 5 6 [0, 1, 2, 3, 4, 5, 6, 7, 8, 9] 0 = true := by decide +kernel
theorem bf_cd_c {g g' : Nat → Nat} : ∀ n, (∀ x, x < n → g' x = g x) → bf_cd g' n = bf_cd g n := by
  intro n
  induction n with
  | zero => intro _; rfl
  | succ n ih => intro h; unfold bf_cd; rw [ih (fun x hx => h x (by omega)), h n (by omega)]
theorem bf_cd_up {g g' : Nat → Nat} {e : Nat} (he : ∀ x, x ≠ e → g' x = g x) (z : g e = 0) : ∀ n, e < n → bf_cd g' n = bf_cd g n + g' e * 16 ^ e := by
  intro n
  induction n with
  | zero => intro h; omega
  | succ n ih =>
    intro h
    unfold bf_cd
    by_cases q : e = n
    · subst q
      rw [bf_cd_c e (fun x hx => he x (by omega)), z]; omega
    · rw [ih (by omega), he n (by omega)]; omega
theorem bf_cd_lt {f : Nat → Nat} : ∀ n, (∀ x, x < n → f x < 16) → bf_cd f n < 16 ^ n := by
  intro n
  induction n with
  | zero => intro _; show 0 < 1; omega
  | succ n ih =>
    intro h
    have a := ih (fun x hx => h x (by omega))
    have b := Nat.mul_le_mul_right (16 ^ n) (show f n ≤ 15 by have := h n (by omega); omega)
    unfold bf_cd
    rw [Nat.pow_succ]
    omega
theorem bf_get_cd {f : Nat → Nat} : ∀ n, (∀ x, x < n → f x < 16) → ∀ x, x < n → bf_get (bf_cd f n) x = f x := by
  intro n
  induction n with
  | zero => intro _ x hx; omega
  | succ n ih =>
    intro h x hx
    have a := bf_cd_lt n (fun x hx => h x (by omega))
    unfold bf_cd bf_get
    by_cases q : x = n
    · subst q
      rw [Nat.add_mul_div_right _ _ (Nat.pow_pos (by omega)), Nat.div_eq_of_lt a, Nat.zero_add, Nat.mod_eq_of_lt (h x (by omega))]
    · have i := ih (fun x hx => h x (by omega)) x (by omega)
      unfold bf_get at i
      have e : f n * 16 ^ n = f n * 16 ^ (n - x - 1) * 16 * 16 ^ x := by
        have : 16 ^ n = 16 ^ (n - x - 1) * 16 * 16 ^ x := by
          rw [← Nat.pow_succ, ← Nat.pow_add, show (n - x - 1).succ + x = n by omega]
        rw [this, ← Nat.mul_assoc, ← Nat.mul_assoc]
      rw [e, Nat.add_mul_div_right _ _ (Nat.pow_pos (by omega)), Nat.add_mul_mod_self_right]
      exact i
theorem bf_t_s {h c : Nat} {cu : Nat → Nat} (h0 : ∀ n, cu (n + 1) = bf_pr h (cu n) c) : ∀ (F n : Nat) (seen : List Nat), (∀ y, y ∈ seen → ∃ i, i < n ∧ cu i = y) → bf_t h c F seen (cu n) = true → ∃ i m, i < m ∧ m ≤ n + F ∧ cu i = cu m := by
  intro F
  induction F with
  | zero => intro n seen _ t; exact absurd t (by unfold bf_t; decide)
  | succ F ih =>
    intro n seen hs t
    unfold bf_t at t
    by_cases q : seen.contains (cu n) = true
    · obtain ⟨i, i1, i2⟩ := hs (cu n) (by simpa using q)
      exact ⟨i, n, i1, by omega, i2⟩
    · rw [if_neg q, mb_fc_e, ← h0 n] at t
      obtain ⟨i, m, i1, i2, i3⟩ := ih (n + 1) (cu n :: seen) (fun y hy => by
        rcases List.mem_cons.mp hy with z | z
        · exact ⟨n, by omega, z.symm⟩
        · obtain ⟨i, i1, i2⟩ := hs y z
          exact ⟨i, by omega, i2⟩) t
      exact ⟨i, m, i1, by omega, i3⟩
theorem bf_all_s {h : Nat} {f : Nat → Nat} (hf : ∀ x, x < 2 * h → f x < 2 * h ∧ f (f x) = x ∧ f x ≠ x) : ∀ (F : Nat) (free : List Nat) (c : Nat), free.Nodup → (∀ x, x ∈ free → x < 2 * h ∧ f x ∈ free) → c = bf_cd (fun x => if x ∈ free then 0 else f x) (2 * h) → bf_all h F free c = true → bf_t h (bf_cd f (2 * h)) 8 [] (bf_cd f (2 * h)) = true := by
  intro F
  induction F with
  | zero => intro free c _ _ _ t; exact absurd t (by unfold bf_all; decide)
  | succ F ih =>
    intro free c nd cl ec t
    cases free with
    | nil =>
      have : c = bf_cd f (2 * h) := by rw [ec]; exact bf_cd_c _ (fun x _ => by simp)
      rw [← this]
      exact t
    | cons e rest =>
      have t : rest.all (fun j => mb_fc (c + j * 16 ^ e + e * 16 ^ j) (fun c' => bf_all h F (rest.erase j) c')) = true := t
      obtain ⟨ne, ndr⟩ := List.nodup_cons.mp nd
      obtain ⟨e1, e2⟩ := cl e List.mem_cons_self
      obtain ⟨f1, f2, f3⟩ := hf e e1
      have jr : f e ∈ rest := (List.mem_cons.mp e2).resolve_left f3
      have tj := List.all_eq_true.mp t (f e) jr
      rw [mb_fc_e] at tj
      have me : ∀ x, x ∈ rest.erase (f e) ↔ x ≠ f e ∧ x ∈ rest := fun x => ndr.mem_erase_iff
      refine ih _ _ (ndr.erase _) (fun x hx => ?_) ?_ tj
      · obtain ⟨x1, x2⟩ := (me x).1 hx
        obtain ⟨y1, y2⟩ := cl x (List.mem_cons_of_mem _ x2)
        obtain ⟨z1, z2, z3⟩ := hf x y1
        refine ⟨y1, (me _).2 ⟨fun q => ?_, (List.mem_cons.mp y2).resolve_left (fun q => ?_)⟩⟩
        · have : x = e := by rw [← z2, q, f2]
          rw [this] at x2; exact ne x2
        · exact x1 (by rw [← q, z2])
      · have u1 := bf_cd_up (g := fun x => if x ∈ e :: rest then 0 else f x) (g' := fun x => if x = e then f e else if x ∈ e :: rest then 0 else f x) (e := e) (fun x hx => by simp only [if_neg hx]) (by simp) (2 * h) e1
        have u2 := bf_cd_up (g := fun x => if x = e then f e else if x ∈ e :: rest then 0 else f x) (g' := fun x => if x = f e then e else if x = e then f e else if x ∈ e :: rest then 0 else f x) (e := f e) (fun x hx => by simp only [if_neg hx]) (by simp [f3, jr]) (2 * h) f1
        have u3 := bf_cd_c (g := fun x => if x = f e then e else if x = e then f e else if x ∈ e :: rest then 0 else f x) (g' := fun x => if x ∈ rest.erase (f e) then 0 else f x) (2 * h) (fun x _ => by
          by_cases q1 : x = f e
          · have : ¬ x ∈ rest.erase (f e) := fun z => ((me x).1 z).1 q1
            simp only [if_neg this, if_pos q1]; rw [q1, f2]
          · by_cases q2 : x = e
            · have : ¬ x ∈ rest.erase (f e) := fun z => ne (by rw [← q2]; exact ((me x).1 z).2)
              simp only [if_neg this, if_neg q1, if_pos q2]; rw [q2]
            · by_cases q3 : x ∈ rest
              · have h1 : x ∈ rest.erase (f e) := (me x).2 ⟨q1, q3⟩
                have h2 : x ∈ e :: rest := List.mem_cons_of_mem _ q3
                simp only [if_pos h1, if_neg q1, if_neg q2, if_pos h2]
              · have h1 : ¬ x ∈ rest.erase (f e) := fun z => q3 ((me x).1 z).2
                have h2 : ¬ x ∈ e :: rest := fun z => q3 ((List.mem_cons.mp z).resolve_left q2)
                simp only [if_neg h1, if_neg q1, if_neg q2, if_neg h2])
        simp only [if_true] at u1 u2
        rw [u3, u2, u1, ec]
theorem mq_8_p {h : Int} {v : Int → Int} (h2 : 2 ≤ h) (h5 : h ≤ 5) (hv : mt_M h v) : ∃ a m : Nat, a < m ∧ m ≤ 8 ∧ mt_eq h (mt_pp h v a) (mt_pp h v m) := by
  obtain ⟨H, rfl⟩ : ∃ H : Nat, h = H := ⟨h.toNat, by omega⟩
  -- v as natural numbers
  have hf : ∀ x : Nat, x < 2 * H → (v x).toNat < 2 * H ∧ (v ((v x).toNat : Nat)).toNat = x ∧ (v x).toNat ≠ x := fun x hx => by
    obtain ⟨y1, y2, y3, y4⟩ := hv x (by omega) (by omega)
    have e : (((v x).toNat : Nat) : Int) = v x := by omega
    rw [e, y3]
    omega
  have DE : ∀ g : Int → Int, mt_M H g → mt_eq H g (bf_f (bf_cd (fun x => (g x).toNat) (2 * H))) := fun g hg e e0 e1 => by
    unfold bf_f
    rw [bf_get_cd (f := fun x => (g x).toNat) (2 * H) (fun x hx => by have := hg x (by omega) (by omega); omega) e.toNat (by omega)]
    have := hg e e0 e1
    rw [show ((e.toNat : Nat) : Int) = e by omega]
    omega
  have T : bf_t H (bf_cd (fun x : Nat => (v x).toNat) (2 * H)) 8 [] (bf_cd (fun x : Nat => (v x).toNat) (2 * H)) = true := by
    have c4 : H = 2 ∨ H = 3 ∨ H = 4 ∨ H = 5 := by omega
    have go : ∀ (F : Nat) (l : List Nat), l.Nodup → (∀ x, x ∈ l ↔ x < 2 * H) → bf_all H F l 0 = true → bf_t H (bf_cd (fun x : Nat => (v x).toNat) (2 * H)) 8 [] (bf_cd (fun x : Nat => (v x).toNat) (2 * H)) = true := fun F l nd ml t => by
      refine bf_all_s (f := fun x : Nat => (v x).toNat) hf F l 0 nd (fun x hx => ⟨(ml x).1 hx, (ml _).2 (hf x ((ml x).1 hx)).1⟩) ?_ t
      have z : ∀ n : Nat, bf_cd (fun _ => 0) n = 0 := by
        intro n
        induction n with
        | zero => rfl
        | succ n ih => unfold bf_cd; rw [ih]; omega
      exact (z (2 * H)).symm.trans (bf_cd_c (2 * H) (fun x hx => by rw [if_pos ((ml x).2 hx)])).symm
    rcases c4 with z | z | z | z
    · subst z; exact go _ _ (by decide) (fun x => by simp; omega) bf_2
    · subst z; exact go _ _ (by decide) (fun x => by simp; omega) bf_3
    · subst z; exact go _ _ (by decide) (fun x => by simp; omega) bf_4
    · subst z; exact go _ _ (by decide) (fun x => by simp; omega) bf_5
  generalize hc : bf_cd (fun x : Nat => (v x).toNat) (2 * H) = c at T
  obtain ⟨cu, c0, cs⟩ : ∃ cu : Nat → Nat, cu 0 = c ∧ ∀ n, cu (n + 1) = bf_pr H (cu n) c := ⟨fun n => Nat.rec c (fun _ y => bf_pr H y c) n, rfl, fun _ => rfl⟩
  rw [← c0] at T
  obtain ⟨a, m, am, m12, e⟩ := bf_t_s (h := H) (c := c) cs 8 0 [] (fun y hy => absurd hy List.not_mem_nil) (by rw [← c0]; exact T)
  have hvc : mt_eq H v (bf_f c) := by rw [← hc]; exact DE v hv
  have E : ∀ n, mt_eq H (mt_pp H v n) (bf_f (cu n)) := by
    intro n
    induction n with
    | zero => rw [c0]; exact hvc
    | succ n ih =>
      have M := mt_pp_M h5 hv n
      have PM := mt_prod_M h5 M hv
      have P : mt_eq H (mt_prod H (mt_pp H v n) v) (mt_prod H (bf_f (cu n)) (bf_f c)) := fun e e0 e1 => by
        unfold mt_prod
        rw [mt_eq_out ih hvc _ _ (mt_s_all e0 e1).1]
      intro e e0 e1
      show mt_both H (mt_pp H v n) v e = _
      rw [mt_eq_both h5 e e0 e1, cs n, DE _ PM e e0 e1]
      unfold bf_pr
      rw [bf_cd_c (2 * H) (fun x hx => by rw [P x (by omega) (by omega)])]
  exact ⟨a, m, am, by omega, fun x x0 x1 => by rw [E a x x0 x1, E m x x0 x1, e]⟩
theorem mq_64_p : mq_64 := fun h v h2 h5 hv d => by
  obtain ⟨a, m, am, m8, e⟩ := mq_8_p h2 h5 hv
  exact d a m am (by omega) e
/-- the first power that has come before is one of the first nine -/
theorem mq_8 {h : Int} {v : Int → Int} {n : Nat} (h2 : 2 ≤ h) (h5 : h ≤ 5) (hv : mt_M h v) (d : mq_d h v n) : n ≤ 8 := by
  obtain ⟨a, m, am, m8, e⟩ := mq_8_p h2 h5 hv
  rcases Nat.lt_or_ge 8 n with z | z
  · exact absurd e (d a m am (by omega))
  · exact z
/-! how many loops the powers leave: no long is left -/
theorem mt_rs_lb2 {h : Int} {a b : Int → Int} (l0 : 0 ≤ a 20 + b 20) (l1 : a 20 + b 20 ≤ 100000000000000000) : ∀ n : Nat, n ≤ 5 → a 20 + b 20 ≤ (mt_rs h a b n).2.1 ∧ (mt_rs h a b n).2.1 ≤ a 20 + b 20 + n := by
  intro n
  induction n with
  | zero =>
    intro _
    show a 20 + b 20 ≤ w64 (a 20 + b 20) ∧ w64 (a 20 + b 20) ≤ _
    rw [w64_id ⟨by omega, by omega⟩]; omega
  | succ n ih =>
    intro hn
    obtain ⟨i1, i2⟩ := ih (by omega)
    unfold mt_rs
    split
    · show a 20 + b 20 ≤ w64 ((mt_rs h a b n).2.1 + 1) ∧ w64 ((mt_rs h a b n).2.1 + 1) ≤ _
      rw [w64_id ⟨by omega, by omega⟩]; omega
    · omega
/-- power n + 1 leaves at least n + 1 times what v leaves, and not much more -/
theorem mt_pp_20 {h : Int} {v : Int → Int} (h0 : 0 ≤ h) (h5 : h ≤ 5) (v0 : 0 ≤ v 20) (v1 : v 20 ≤ 5000000000000) : ∀ n : Nat, n ≤ 2000 → (n + 1) * v 20 ≤ mt_pp h v n 20 ∧ mt_pp h v n 20 ≤ (n + 1) * v 20 + 5 * n := by
  intro n
  induction n with
  | zero => intro _; show ((0 : Nat) + 1 : Int) * v 20 ≤ v 20 ∧ v 20 ≤ ((0 : Nat) + 1 : Int) * v 20 + 5 * (0 : Nat); omega
  | succ n ih =>
    intro hn
    obtain ⟨i1, i2⟩ := ih (by omega)
    have a := Int.mul_le_mul_of_nonneg_right (show (n : Int) + 1 ≤ 2001 by omega) v0
    have b := Int.mul_nonneg (show (0 : Int) ≤ (n : Int) + 1 by omega) v0
    have e : (((n + 1 : Nat) : Int) + 1) * v 20 = ((n : Int) + 1) * v 20 + v 20 := by rw [show ((n + 1 : Nat) : Int) = (n : Int) + 1 by omega, Int.add_mul ((n : Int) + 1) 1 (v 20), Int.one_mul]
    have := mt_rs_lb2 (h := h) (a := mt_pp h v n) (b := v) (by omega) (by omega) h.toNat (by omega)
    show _ ≤ mt_both h (mt_pp h v n) v 20 ∧ mt_both h (mt_pp h v n) v 20 ≤ _
    rw [mt_both_20, e]
    omega
/-- what a power leaves closed, as a number: between 0 and 10^17, and it doesn't fall -/
theorem mt_plo_r {h : Int} {v cl : Int → Int} (h0 : 0 ≤ h) (h5 : h ≤ 5) (hv : mt_M h v) (hc : mt_M h cl) (v0 : 0 ≤ v 20) (v1 : v 20 ≤ 5000000000000) {n : Nat} (hn : n ≤ 2000) : mt_plo h v cl n = mt_pp h v n 20 + mt_cl h (mt_pp h v n) cl ∧ 0 ≤ mt_plo h v cl n ∧ mt_plo h v cl n ≤ 20000000000000000 := by
  obtain ⟨i1, i2⟩ := mt_pp_20 h0 h5 v0 v1 n hn
  have a := Int.mul_le_mul_of_nonneg_right (show (n : Int) + 1 ≤ 2001 by omega) v0
  have b := Int.mul_nonneg (show (0 : Int) ≤ (n : Int) + 1 by omega) v0
  have c := mt_cl_r h0 h5 (mt_pp_M h5 hv n) hc
  unfold mt_plo
  rw [w64_id ⟨by omega, by omega⟩]
  omega
theorem mt_pp_m {h : Int} {v : Int → Int} (h0 : 0 ≤ h) (h5 : h ≤ 5) (v0 : 0 ≤ v 20) (v1 : v 20 ≤ 5000000000000) {n : Nat} : ∀ k : Nat, n + k ≤ 2000 → mt_pp h v n 20 ≤ mt_pp h v (n + k) 20 := by
  intro k
  induction k with
  | zero => intro _; exact Int.le_refl _
  | succ k ih =>
    intro hn
    have i := ih (by omega)
    obtain ⟨i1, i2⟩ := mt_pp_20 h0 h5 v0 v1 (n + k) (by omega)
    have a := Int.mul_le_mul_of_nonneg_right (show ((n + k : Nat) : Int) + 1 ≤ 2001 by omega) v0
    have b := Int.mul_nonneg (show (0 : Int) ≤ ((n + k : Nat) : Int) + 1 by omega) v0
    have := mt_rs_lb2 (h := h) (a := mt_pp h v (n + k)) (b := v) (by omega) (by omega) h.toNat (by omega)
    show _ ≤ mt_both h (mt_pp h v (n + k)) v 20
    rw [mt_both_20]
    omega
/-- from a power that comes again on, what is left grows by the same, which is no less than 0 -/
theorem mt_plo_g {h : Int} {v cl : Int → Int} (h0 : 0 ≤ h) (h5 : h ≤ 5) (hv : mt_M h v) (ov : mt_ok h v) (hc : mt_M h cl) (v0 : 0 ≤ v 20) (v1 : v 20 ≤ 5000000000000) {a b : Nat} (ab : a ≤ b) (e : mt_eq h (mt_pp h v a) (mt_pp h v b)) (k : Nat) (hb : b + k ≤ 2000) : mt_plo h v cl (b + k) = mt_plo h v cl (a + k) + (mt_plo h v cl b - mt_plo h v cl a) ∧ mt_plo h v cl a ≤ mt_plo h v cl b := by
  have d := mt_lo_d h0 h5 hv ov hc e k
  obtain ⟨a1, a2, a3⟩ := mt_plo_r h0 h5 hv hc v0 v1 (show a ≤ 2000 by omega)
  obtain ⟨b1, b2, b3⟩ := mt_plo_r h0 h5 hv hc v0 v1 (show b ≤ 2000 by omega)
  obtain ⟨c1, c2, c3⟩ := mt_plo_r h0 h5 hv hc v0 v1 (show a + k ≤ 2000 by omega)
  obtain ⟨d1, d2, d3⟩ := mt_plo_r h0 h5 hv hc v0 v1 (show b + k ≤ 2000 by omega)
  rw [w64_id ⟨by omega, by omega⟩, w64_id ⟨by omega, by omega⟩] at d
  refine ⟨by omega, ?_⟩
  have m := mt_pp_m h0 h5 v0 v1 (n := a) (b - a) (by omega)
  rw [show a + (b - a) = b by omega] at m
  have cc := mt_cl_c h0 (mt_pp_M h5 hv a) hc e
  omega
/-- some rounds on -/
theorem mt_plo_j {h : Int} {v cl : Int → Int} (h0 : 0 ≤ h) (h5 : h ≤ 5) (hv : mt_M h v) (ov : mt_ok h v) (hc : mt_M h cl) (v0 : 0 ≤ v 20) (v1 : v 20 ≤ 5000000000000) {a b : Nat} (ab : a ≤ b) (e : mt_eq h (mt_pp h v a) (mt_pp h v b)) (k : Nat) : ∀ j : Nat, a + k + j * (b - a) ≤ 2000 → mt_plo h v cl (a + k + j * (b - a)) = mt_plo h v cl (a + k) + j * (mt_plo h v cl b - mt_plo h v cl a) := by
  intro j
  induction j with
  | zero => intro _; rw [Nat.zero_mul, Nat.add_zero]; simp
  | succ j ih =>
    intro hj
    have ej : (j + 1) * (b - a) = j * (b - a) + (b - a) := by rw [Nat.add_mul, Nat.one_mul]
    have g := (mt_plo_g h0 h5 hv ov hc v0 v1 ab e (k + j * (b - a)) (by omega)).1
    rw [show a + k + (j + 1) * (b - a) = b + (k + j * (b - a)) by omega, g, show a + (k + j * (b - a)) = a + k + j * (b - a) by omega, ih (by omega), show ((j + 1 : Nat) : Int) = (j : Int) + 1 by omega, Int.add_mul, Int.one_mul]
    omega
/-! left: both sides answer alike -/
def mq_lv (h : Int) (v cl : Int → Int) (a n : Nat) (x : Int) : Int := min mt_top (if x ≤ a then mt_plo h v cl (x - 1).toNat else mt_plo h v cl (a + ((x - 1 - a) % (n - a)).toNat) + ((x - 1 - a) / (n - a)) * (mt_plo h v cl n - mt_plo h v cl a))
theorem s_loopsOf_x {Q : Int → ml_St → Prop} {h x : Int} {v cl : Int → Int} {a n : Nat} {σ : ml_St} (h0 : 0 ≤ h) (h5 : h ≤ 5) (hv : mt_M h v) (ov : mt_ok h v) (hc : mt_M h cl) (v0 : 0 ≤ v 20) (v1 : v 20 ≤ 5000000000000) (p : mq_q h v cl a n σ) (x1 : 1 ≤ x) (x2 : x ≤ 1000000000000000000) (k : Q (mq_lv h v cl a n x) σ) : f_X6_loopsOf σ x Q := by
  obtain ⟨p1, p2, p3, p4, p5, p6, p7, p8⟩ := p
  have g0 := (mt_plo_g h0 h5 hv ov hc v0 v1 (Nat.le_of_lt p1) p7 0 (by omega)).2
  obtain ⟨b1, b2, b3⟩ := mt_plo_r h0 h5 hv hc v0 v1 (show a ≤ 2000 by omega)
  obtain ⟨c1, c2, c3⟩ := mt_plo_r h0 h5 hv hc v0 v1 (show n ≤ 2000 by omega)
  rw [w64_id ⟨by omega, by omega⟩] at p5
  have g1 : 0 ≤ mt_plo h v cl n - mt_plo h v cl a ∧ mt_plo h v cl n - mt_plo h v cl a ≤ 20000000000000000 := by omega
  unfold mq_lv mt_top at k
  unfold f_X6_loopsOf f_X6_loopsOf_u0
  rw [p3, p4]
  refine fun _ => ⟨fun q _ _ => ⟨by omega, fun y7 e7 _ _ _ => ⟨by omega, ?_⟩⟩, fun q => ?_⟩
  · have ex : x - ((a : Int) + 1) = x - 1 - a := by omega
    have e1 : w64 (x - (a + 1)) = x - 1 - a := by rw [ex]; exact w64_id ⟨by omega, by omega⟩
    have tm : Int.tmod (x - 1 - a) (n - a) = (x - 1 - a) % (n - a) := Int.tmod_eq_emod_of_nonneg (by omega)
    have td : Int.tdiv (x - 1 - a) (n - a) = (x - 1 - a) / (n - a) := Int.tdiv_eq_ediv_of_nonneg (by omega)
    have m0 := Int.emod_nonneg (x - 1 - a) (show (n : Int) - a ≠ 0 by omega)
    have m1 := Int.emod_lt_of_pos (x - 1 - a) (show 0 < (n : Int) - a by omega)
    have d0 := Int.ediv_nonneg (show 0 ≤ x - 1 - a by omega) (show 0 ≤ (n : Int) - a by omega)
    have d1 := Int.ediv_le_self ((n : Int) - a) (show 0 ≤ x - 1 - a by omega)
    rw [e1, td, w64_id ⟨by omega, by omega⟩] at e7
    rw [e1, tm, mb_l2i2 (by omega) (by omega)]
    rw [if_neg (by omega)] at k
    generalize (x - 1 - (a : Int)) % (n - a) = r at *
    generalize (x - 1 - (a : Int)) / (n - a) = y at *
    have el := p6 (a + r.toNat) (by omega)
    rw [show ((a + r.toNat : Nat) : Int) + 1 = a + 1 + r by omega] at el
    obtain ⟨f1, f2, f3⟩ := mt_plo_r h0 h5 hv hc v0 v1 (show a + r.toNat ≤ 2000 by omega)
    rw [el, p5]
    generalize mt_plo h v cl (a + r.toNat) = u at *
    generalize mt_plo h v cl n - mt_plo h v cl a = g at *
    subst e7
    refine ⟨mt_I (by omega) (by omega), by omega, by omega, fun _ y15 e15 _ => ?_⟩
    subst e15
    unfold f_X6_loopsOf_u87
    rw [p5]
    refine ⟨fun z _ => ?_, fun z _ => ⟨by omega, ?_⟩⟩
    · have : g = 0 := by omega
      subst this
      rw [Int.mul_zero, w64_id (x := 0) ⟨by omega, by omega⟩, w64_id ⟨by omega, by omega⟩]
      rw [Int.mul_zero] at k
      rw [show min 9000000000000000000 (y15 + 0) = y15 + 0 by omega] at k
      exact k
    · have e2 : w64 (9000000000000000000 - y15) = 9000000000000000000 - y15 := w64_id ⟨by omega, by omega⟩
      have t2 : Int.tdiv (9000000000000000000 - y15) g = (9000000000000000000 - y15) / g := Int.tdiv_eq_ediv_of_nonneg (by omega)
      have q0 := Int.ediv_nonneg (show 0 ≤ 9000000000000000000 - y15 by omega) (show 0 ≤ g by omega)
      have q1 := Int.ediv_le_self g (show 0 ≤ 9000000000000000000 - y15 by omega)
      have iff := Int.le_ediv_iff_mul_le (a := y7) (b := 9000000000000000000 - y15) (show 0 < g by omega)
      have yg := Int.mul_nonneg d0 (show 0 ≤ g by omega)
      rw [e2, t2, w64_id ⟨by omega, by omega⟩]
      refine ⟨fun c _ => ?_, fun c => ?_⟩
      · have := iff.1 c
        rw [w64_id (x := y7 * g) ⟨by omega, by omega⟩, w64_id ⟨by omega, by omega⟩]
        rw [show min 9000000000000000000 (y15 + y7 * g) = y15 + y7 * g by omega] at k
        exact k
      · have : ¬ y7 * g ≤ 9000000000000000000 - y15 := fun z => c (iff.2 z)
        rw [show min 9000000000000000000 (y15 + y7 * g) = 9000000000000000000 by omega] at k
        exact k
  · rw [mb_l2i2 (by omega) (by omega)]
    rw [if_pos (by omega)] at k
    have el := p6 (x - 1).toNat (by omega)
    rw [show (((x - 1).toNat : Nat) : Int) + 1 = x by omega] at el
    obtain ⟨f1, f2, f3⟩ := mt_plo_r h0 h5 hv hc v0 v1 (show (x - 1).toNat ≤ 2000 by omega)
    rw [el]
    rw [show min 9000000000000000000 (mt_plo h v cl (x - 1).toNat) = mt_plo h v cl (x - 1).toNat by omega] at k
    exact ⟨by omega, by omega, fun _ => k⟩
/-! left, of the class and of the model -/
theorem c_left_x {Q : Int → ml_St → Prop} {h told ts cap w x : Int} {tb cl pr sz : Int → Int} {T : Int → Int → Int} {σ0 : ml_St} (nb : mq_64) (i : IC h told ts cap tb cl pr sz T σ0) (k1 : mt_md told (mt_mk h T sz) w → 1 ≤ x → x ≤ 1000000000000000000 → ∀ σ (a n : Nat), IC h told ts cap tb cl pr sz T σ → (∀ j, 215 ≤ j → σ j = σ0 j) → mq_q h (mt_mk h T sz w) cl a n σ → Q (mq_lv h (mt_mk h T sz w) cl a n x) σ) (k0 : ¬ (mt_md told (mt_mk h T sz) w ∧ 1 ≤ x ∧ x ≤ 1000000000000000000) → Q (-1) σ0) : f_X11_left σ0 w x Q := by
  have t16 := i.1.2.2.2.2.2
  unfold f_X11_left f_X11_left_u0
  unfold f_X11_left_u15
  refine c_isMade i (fun q _ => ⟨fun z => absurd z (by omega), fun _ => s_isPower (fun x1 x2 _ => ⟨fun _ => ⟨q.1, by have := q.2.1; omega, fun _ => ?_⟩, fun z => absurd z (by omega)⟩) (fun q2 _ => ⟨fun z => absurd rfl z, fun _ => k0 (fun z => q2 z.2)⟩)⟩) (fun q _ => ⟨fun _ => k0 (fun z => q z.1), fun z => absurd rfl z⟩)
  obtain ⟨g1, g2, g3, g4⟩ := IC_w i q.1 q.2.1
  have c := i.2.2.1
  have cv := IC_cv i q.1 q.2.1
  have b20 := mq_20 cv q.2.2
  have h2 := i.1.2.2.1
  have h5 := i.1.2.2.2.1
  rw [i.1.1, show 119 + 6 * w + 2 = 121 + 6 * w by omega]
  refine s_study_x h2 h5 (Or.inr (by have := q.1; omega)) (by have := q.1; omega) g3 g2 c.2.2.2.1 c.2.2.1 (nb h _ h2 h5 g3) (fun σ a n f p => ?_)
  exact s_loopsOf_x (by omega) h5 g3 g4 c.2.2.2.1 b20.1 b20.2 p x1 x2 (fun _ => k1 q x1 x2 σ a n (IC_kp (mt_f46_kp f) i) (mt_kp_m (mt_f46_kp f)) p)
theorem m_left_x {Q : Int → ml_St → Prop} {h told ts cap w x : Int} {tb cl pr sz : Int → Int} {T : Int → Int → Int} {τ : ml_St} (i : IM h told ts cap tb cl pr sz T τ) (k1 : mt_md told (mt_mk h T sz) w → 1 ≤ x → x ≤ 1000000000000000000 → ∀ σ (a n : Nat), IM h told ts cap tb cl pr sz T σ → (∀ j, j < 215 → σ j = τ j) → mq_p h (mt_mk h T sz w) cl a n σ → Q (mq_lv h (mt_mk h T sz w) cl a n x) σ) (k0 : ¬ (mt_md told (mt_mk h T sz) w ∧ 1 ≤ x ∧ x ≤ 1000000000000000000) → Q (-1) τ) : f_X12_left τ w x Q := by
  have h2 := i.1.2.2.1
  have h5 := i.1.2.2.2.1
  unfold f_X12_left f_X12_left_u0
  unfold f_X12_left_u15
  refine m_isMade i (fun q _ => ⟨fun z => absurd z (by omega), fun _ => s_isPower12 (fun x0 x1 _ => ⟨fun _ => m_powers i q (fun σ a n i' j' p => ?_), fun z => absurd z (by omega)⟩) (fun q2 _ => ⟨fun z => absurd rfl z, fun _ => k0 (fun z => q2 z.2)⟩)⟩) (fun q _ => ⟨fun _ => k0 (fun z => q z.1), fun z => absurd rfl z⟩)
  have kk := k1 q x0 x1 σ a n i' j' p
  obtain ⟨g1, hv, ov, g4, g5⟩ := IM_w i q
  have hc := i.2.2.1.2.2.2
  obtain ⟨v0, v1⟩ := mq_20 (IM_cv i q.1 q.2.1).1 q.2.2
  generalize mt_mk h T sz w = v at *
  obtain ⟨p1, p2, p3, p4, p5, p6, p7, p8, p9⟩ := p
  have gg := (mt_plo_g (by omega) h5 hv ov hc v0 v1 (Nat.le_of_lt p1) p8 0 (by omega)).2
  obtain ⟨b1, b2, b3⟩ := mt_plo_r (by omega) h5 hv hc v0 v1 (show a ≤ 2000 by omega)
  obtain ⟨c1, c2, c3⟩ := mt_plo_r (by omega) h5 hv hc v0 v1 (show n ≤ 2000 by omega)
  have gr : 0 ≤ mt_plo h v cl n - mt_plo h v cl a ∧ mt_plo h v cl n - mt_plo h v cl a ≤ 20000000000000000 := by omega
  rw [w64_id ⟨by omega, by omega⟩] at p6
  have m0 := Int.emod_nonneg (x - 1 - a) (show (n : Int) - a ≠ 0 by omega)
  have m1 := Int.emod_lt_of_pos (x - 1 - a) (show 0 < (n : Int) - a by omega)
  have md := Int.mul_ediv_add_emod (x - 1 - a) ((n : Int) - a)
  rw [p3, p4, p5, p6]
  unfold mq_lv at kk
  refine fun _ => ⟨fun c _ _ _ => ?_, fun c => ?_⟩
  · rw [if_neg (by omega)] at kk
    have ex : x - ((a : Int) + 1) = x - 1 - a := by omega
    have e1 : w64 (x - (a + 1)) = x - 1 - a := by rw [ex]; exact w64_id ⟨by omega, by omega⟩
    have tm : Int.tmod (x - 1 - a) (n - a) = (x - 1 - a) % (n - a) := Int.tmod_eq_emod_of_nonneg (by omega)
    have d0 := Int.ediv_nonneg (show 0 ≤ x - 1 - a by omega) (show 0 ≤ (n : Int) - a by omega)
    have d1 := Int.ediv_le_self ((n : Int) - a) (show 0 ≤ x - 1 - a by omega)
    rw [e1, tm, mb_l2i2 (by omega) (by omega)]
    generalize (x - 1 - (a : Int)) % (n - a) = r at *
    generalize (x - 1 - (a : Int)) / (n - a) = y at *
    refine ⟨by omega, mt_I (by omega) (by omega), fun y14 e14 => ⟨by omega, by omega, ?_⟩⟩
    have el := p7 (a + r.toNat) (by omega)
    rw [show ((a + r.toNat : Nat) : Int) + 1 = y14 by omega] at el
    obtain ⟨f1, f2, f3⟩ := mt_plo_r (by omega) h5 hv hc v0 v1 (show a + r.toNat ≤ 2000 by omega)
    rw [el]
    have e2 : w64 (x - y14) = (n - a) * y := by
      rw [w64_id ⟨by omega, by omega⟩]; omega
    have e3 : Int.tdiv ((n - a) * y) (n - a) = y := by
      rw [Int.tdiv_eq_ediv_of_nonneg (Int.mul_nonneg (by omega) d0)]
      exact Int.mul_ediv_cancel_left y (by omega)
    rw [e2, e3, w64_id (x := y) ⟨by omega, by omega⟩]
    refine fun _ _ => ⟨by omega, fun _ => s_times (x := y) (by unfold mt_top; omega) d0 gr.1 (fun _ _ => s_plus (x := mt_plo h v cl (a + r.toNat)) (y := (mt_plo h v cl n - mt_plo h v cl a) * y) (by unfold mt_top; omega) rfl f2 (Int.mul_nonneg gr.1 d0) (fun _ _ => ?_))⟩
    rw [Int.mul_comm]; exact kk
  · rw [mb_l2i2 (by omega) (by omega)]
    have el := p7 (x - 1).toNat (by omega)
    rw [show (((x - 1).toNat : Nat) : Int) + 1 = x by omega] at el
    obtain ⟨f1, f2, f3⟩ := mt_plo_r (by omega) h5 hv hc v0 v1 (show (x - 1).toNat ≤ 2000 by omega)
    rw [el]
    refine ⟨by omega, by omega, fun _ => ?_⟩
    by_cases z : x ≤ a
    · rw [if_pos z, show min mt_top (mt_plo h v cl (x - 1).toNat) = mt_plo h v cl (x - 1).toNat by unfold mt_top; omega] at kk
      exact kk
    · rw [if_neg z] at kk
      have d0 := Int.ediv_nonneg (show 0 ≤ x - 1 - a by omega) (show 0 ≤ (n : Int) - a by omega)
      generalize (x - 1 - (a : Int)) % (n - a) = r at *
      generalize (x - 1 - (a : Int)) / (n - a) = y at *
      have ey : ((y.toNat * (n - a) : Nat) : Int) = (n - a) * y := by
        rw [Int.natCast_mul, show ((n - a : Nat) : Int) = (n : Int) - a by omega, show ((y.toNat : Nat) : Int) = y by omega, Int.mul_comm]
      have j := mt_plo_j (by omega) h5 hv ov hc v0 v1 (Nat.le_of_lt p1) p8 r.toNat y.toNat (by omega)
      rw [show a + r.toNat + y.toNat * (n - a) = (x - 1).toNat by omega, show ((y.toNat : Nat) : Int) = y by omega] at j
      rw [← j, show min mt_top (mt_plo h v cl (x - 1).toNat) = mt_plo h v cl (x - 1).toNat by unfold mt_top; omega] at kk
      exact kk
/-! the rule: both sides answer alike -/
def mq_h (h : Int) (v cl : Int → Int) : Prop := 2 ≤ h ∧ h ≤ 5 ∧ mt_M h v ∧ mt_ok h v ∧ mt_M h cl ∧ 0 ≤ v 20 ∧ v 20 ≤ 5000000000000
/-- what small powers leave -/
theorem mq_lv_s {h : Int} {v cl : Int → Int} {a n : Nat} (H : mq_h h v cl) (an : a < n) (e : mt_eq h (mt_pp h v a) (mt_pp h v n)) {x : Nat} (hx : x ≤ 2000) : mq_lv h v cl a n ((x : Int) + 1) = mt_plo h v cl x := by
  obtain ⟨h2, h5, hv, ov, hc, v0, v1⟩ := H
  obtain ⟨f1, f2, f3⟩ := mt_plo_r (by omega) h5 hv hc v0 v1 hx
  have md := Int.mul_ediv_add_emod ((x : Int) + 1 - 1 - a) ((n : Int) - a)
  have m0 := Int.emod_nonneg ((x : Int) + 1 - 1 - a) (show (n : Int) - a ≠ 0 by omega)
  have m1 := Int.emod_lt_of_pos ((x : Int) + 1 - 1 - a) (show 0 < (n : Int) - a by omega)
  unfold mq_lv
  rw [show ((x : Int) + 1 - 1).toNat = x by omega]
  by_cases z : (x : Int) + 1 ≤ a
  · rw [if_pos z]; unfold mt_top; omega
  · rw [if_neg z]
    have d0 := Int.ediv_nonneg (show 0 ≤ (x : Int) + 1 - 1 - a by omega) (show 0 ≤ (n : Int) - a by omega)
    generalize ((x : Int) + 1 - 1 - (a : Int)) % (n - a) = r at *
    generalize ((x : Int) + 1 - 1 - (a : Int)) / (n - a) = y at *
    have ey : ((y.toNat * (n - a) : Nat) : Int) = (n - a) * y := by
      rw [Int.natCast_mul, show ((n - a : Nat) : Int) = (n : Int) - a by omega, show ((y.toNat : Nat) : Int) = y by omega, Int.mul_comm]
    have j := mt_plo_j (by omega) h5 hv ov hc v0 v1 (Nat.le_of_lt an) e r.toNat y.toNat (by omega)
    rw [show a + r.toNat + y.toNat * (n - a) = x by omega, show ((y.toNat : Nat) : Int) = y by omega] at j
    rw [← j]; unfold mt_top; omega
/-- L grows by one number over p, from the index on -/
def mr_D (h : Int) (v cl : Int → Int) (a n p : Nat) : Prop := ∀ j : Nat, j < n - a → mt_plo h v cl (a + j + p) - mt_plo h v cl (a + j) = mt_plo h v cl (a + p) - mt_plo h v cl a
theorem mr_D_n {h : Int} {v cl : Int → Int} {a n : Nat} (H : mq_h h v cl) (an : a < n) (n9 : n ≤ 945) (e : mt_eq h (mt_pp h v a) (mt_pp h v n)) : mr_D h v cl a n (n - a) := by
  obtain ⟨h2, h5, hv, ov, hc, v0, v1⟩ := H
  intro j hj
  have g := (mt_plo_g (by omega) h5 hv ov hc v0 v1 (Nat.le_of_lt an) e j (by omega)).1
  rw [show a + j + (n - a) = n + j by omega, g, show a + (n - a) = n by omega]; omega
def mr (h : Int) (v cl : Int → Int) (a n s m : Nat) (g : Int) : Prop := 1 ≤ s ∧ s ≤ n - a ∧ mr_D h v cl a n s ∧ (∀ p, 1 ≤ p → p < s → ¬ mr_D h v cl a n p) ∧ g = mt_plo h v cl (a + s) - mt_plo h v cl a ∧ m ≤ a ∧ (∀ j, m ≤ j → j < a → mt_plo h v cl (j + s) - mt_plo h v cl j = g) ∧ (m = 0 ∨ mt_plo h v cl (m - 1 + s) - mt_plo h v cl (m - 1) ≠ g)
theorem mr_u {h : Int} {v cl : Int → Int} {a n s m s' m' : Nat} {g g' : Int} (x : mr h v cl a n s m g) (y : mr h v cl a n s' m' g') : s = s' ∧ m = m' ∧ g = g' := by
  obtain ⟨x1, x2, x3, x4, x5, x6, x7, x8⟩ := x
  obtain ⟨y1, y2, y3, y4, y5, y6, y7, y8⟩ := y
  have s1 : s = s' := by
    rcases Nat.lt_trichotomy s s' with z | z | z
    · exact absurd x3 (y4 s x1 z)
    · exact z
    · exact absurd y3 (x4 s' y1 z)
  subst s1
  have g1 : g = g' := by rw [x5, y5]
  subst g1
  refine ⟨rfl, ?_, rfl⟩
  rcases Nat.lt_trichotomy m m' with z | z | z
  · have q := y8.resolve_left (by omega)
    exact absurd (x7 (m' - 1) (by omega) (by omega)) q
  · exact z
  · have q := x8.resolve_left (by omega)
    exact absurd (y7 (m - 1) (by omega) (by omega)) q
/-- the class: growth -/
theorem s_growth_x {Q : Int → ml_St → Prop} {h : Int} {v cl : Int → Int} {a n : Nat} {σ : ml_St} (H : mq_h h v cl) (p : mq_q h v cl a n σ) (x y : Nat) (xy : x + y ≤ 1900) (k : Q (mt_plo h v cl (x + y) - mt_plo h v cl x) σ) : f_X6_growth σ ((x : Int) + 1) y Q := by
  have H' := H
  obtain ⟨h2, h5, hv, ov, hc, v0, v1⟩ := H
  have r1 := mt_plo_r (n := x + y) (by omega) h5 hv hc v0 v1 (by omega)
  have r2 := mt_plo_r (n := x) (by omega) h5 hv hc v0 v1 (by omega)
  unfold f_X6_growth f_X6_growth_u0
  refine ⟨mt_I (by omega) (by omega), ?_⟩
  refine s_loopsOf_x (by omega) h5 hv ov hc v0 v1 p (by omega) (by omega) (fun _ => s_loopsOf_x (by omega) h5 hv ov hc v0 v1 p (by omega) (by omega) (fun _ => ?_))
  have e1 := mq_lv_s (cl := cl) H' p.1 p.2.2.2.2.2.2.1 (x := x + y) (by omega)
  have e2 := mq_lv_s (cl := cl) H' p.1 p.2.2.2.2.2.2.1 (x := x) (by omega)
  rw [show (x : Int) + 1 + y = ((x + y : Nat) : Int) + 1 by omega, e1, e2, w64_id ⟨by omega, by omega⟩]
  exact k
theorem s_isEven_x {Q : Int → ml_St → Prop} {h : Int} {v cl : Int → Int} {a n : Nat} {σ : ml_St} (H : mq_h h v cl) (p : mq_q h v cl a n σ) (x : Nat) (x0 : 1 ≤ x) (x1 : x ≤ n - a) (k1 : mr_D h v cl a n x → Q 1 σ) (k0 : ¬ mr_D h v cl a n x → Q 0 σ) : f_X6_isEven σ x Q := by
  have p' := p
  obtain ⟨p1, p2, p3, p4, p5, p6, p7, p8⟩ := p
  have L : ∀ (N : Nat) (x2 : Int) (j : Nat), ((x2 = 1 ∧ (∀ i, i < j → mt_plo h v cl (a + i + x) - mt_plo h v cl (a + i) = mt_plo h v cl (a + x) - mt_plo h v cl a)) ∨ (x2 = 0 ∧ ¬ mr_D h v cl a n x)) → 1 ≤ j → j ≤ n - a → n - a - j < N → f_X6_isEven_u9 Q (f_X6_isEven_u57 Q) N σ x x2 ((a : Int) + 1 + j) := by
    intro N
    induction N with
    | zero => intro x2 j _ n0 n1 hN; omega
    | succ N ih =>
      intro x2 j hx n0 n1 hN
      unfold f_X6_isEven_u9
      rw [p3, p4]
      have nx : ∀ s, ((s = 1 ∧ (∀ i, i < j + 1 → mt_plo h v cl (a + i + x) - mt_plo h v cl (a + i) = mt_plo h v cl (a + x) - mt_plo h v cl a)) ∨ (s = 0 ∧ ¬ mr_D h v cl a n x)) → j < n - a → f_X6_isEven_u50 Q (f_X6_isEven_u9 Q (f_X6_isEven_u57 Q) N) σ x ((a : Int) + 1 + j) s := by
        intro s hs hn
        unfold f_X6_isEven_u50
        refine ⟨mt_i (by omega) (by omega), fun y1 e1 => ?_⟩
        rw [e1, show (a : Int) + 1 + j + 1 = a + 1 + ((j + 1 : Nat) : Int) by omega]
        exact ih s (j + 1) hs (by omega) (by omega) (by omega)
      refine fun _ _ => ⟨mt_i (by omega) (by omega), fun c => ?_, fun c => ⟨fun z => ?_, fun z => ?_⟩⟩
      · unfold f_X6_isEven_u57
        rcases hx with ⟨e, hx⟩ | ⟨e, hx⟩
        · rw [e]; exact k1 (fun i hi => hx i (by omega))
        · rw [e]; exact k0 hx
      · unfold f_X6_isEven_u49
        rcases hx with ⟨e, hx⟩ | ⟨e, hx⟩
        · omega
        · exact nx 0 (Or.inr ⟨rfl, hx⟩) (by omega)
      · rcases hx with ⟨e, hx⟩ | ⟨e, hx⟩
        · rw [show (a : Int) + 1 + j = ((a + j : Nat) : Int) + 1 by omega]
          refine s_growth_x H p' (a + j) x (by omega) (fun _ _ => ?_)
          rw [p3]
          refine s_growth_x H p' a x (by omega) (fun _ => ⟨fun ne => ?_, fun eq => ?_⟩)
          · unfold f_X6_isEven_u49
            rw [show ((a + j : Nat) : Int) + 1 = (a : Int) + 1 + j by omega]
            exact nx 0 (Or.inr ⟨rfl, fun d => ne (d j (by omega))⟩) (by omega)
          · rw [show ((a + j : Nat) : Int) + 1 = (a : Int) + 1 + j by omega]
            refine nx 1 (Or.inl ⟨rfl, fun i hi => ?_⟩) (by omega)
            by_cases q : i = j
            · subst q; exact eq
            · exact hx i (by omega)
        · omega
  unfold f_X6_isEven f_X6_isEven_u0
  rw [p3]
  refine fun _ => ⟨mt_i (by omega) (by omega), fun y3 e3 => ⟨200, ?_⟩⟩
  have := L 200 1 1 (Or.inl ⟨rfl, fun i hi => by rw [show i = 0 by omega]; rfl⟩) (by omega) (by omega) (by omega)
  rw [e3]; exact this
theorem mq_q_k {h : Int} {v cl : Int → Int} {a n : Nat} {σ σ' : ml_St} (e4 : σ' 46 4 = σ 46 4) (e5 : σ' 46 5 = σ 46 5) (e6 : σ' 46 6 = σ 46 6) (e : σ' 48 = σ 48) (p : mq_q h v cl a n σ) : mq_q h v cl a n σ' := by
  unfold mq_q at *
  rw [e4, e5, e6, e]; exact p
theorem s_findRule_x {Q : ml_St → Prop} {h : Int} {v cl : Int → Int} {a n : Nat} {σ0 : ml_St} (H : mq_h h v cl) (p : mq_q h v cl a n σ0) (k : ∀ σ (s m : Nat) (g : Int), mt_f46 σ0 σ → mq_q h v cl a n σ → σ 46 7 = s → σ 46 8 = g → σ 46 9 = m + 1 → mr h v cl a n s m g → Q σ) : f_X6_findRule σ0 Q := by
  have an := p.1
  have n6 := p.2.1
  have en := p.2.2.2.2.2.2.1
  have S : ∀ (N : Nat) (s m : Nat) (g : Int) (σ : ml_St), mt_f46 σ0 σ → mq_q h v cl a n σ → σ 46 7 = s → σ 46 8 = g → σ 46 9 = m + 1 → 1 ≤ s → s ≤ n - a → mr_D h v cl a n s → (∀ p, 1 ≤ p → p < s → ¬ mr_D h v cl a n p) → g = mt_plo h v cl (a + s) - mt_plo h v cl a → m ≤ a → (∀ j, m ≤ j → j < a → mt_plo h v cl (j + s) - mt_plo h v cl j = g) → m < N → f_X6_findRule_u64 Q (f_X6_findRule_u107 Q) N σ := by
    intro N
    induction N with
    | zero => intro s m g σ _ _ _ _ _ _ _ _ _ _ _ _ hN; omega
    | succ N ih =>
      intro s m g σ f pq e7 e8 e9 s1 s2 d1 d2 eg ma hm hN
      unfold f_X6_findRule_u64
      unfold f_X6_findRule_u107
      rw [e9, e7]
      have fin : (m = 0 ∨ mt_plo h v cl (m - 1 + s) - mt_plo h v cl (m - 1) ≠ g) → Q σ := fun z => k σ s m g f pq e7 e8 e9 ⟨s1, s2, d1, d2, eg, ma, hm, z⟩
      refine fun _ => ⟨fun c => fin (Or.inl (by omega)), fun c _ => ⟨mt_i (by omega) (by omega), fun _ => ?_⟩⟩
      rw [show (m : Int) + 1 - 1 = ((m - 1 : Nat) : Int) + 1 by omega]
      refine s_growth_x H pq (m - 1) s (by omega) (fun _ _ => ?_)
      rw [e8, e9]
      refine ⟨fun ne => fin (Or.inr ne), fun eq _ => ⟨mt_i (by omega) (by omega), fun σ11 s11 => ?_⟩⟩
      have o : ∀ b, b ≠ 9 → σ11 46 b = σ 46 b := fun b hb => by rw [s11, ml_up_i hb]
      refine ih s (m - 1) g σ11 (mt_f46_t f (by rw [s11]; exact mt_f46_up (by omega) (by omega))) (mq_q_k (o 4 (by omega)) (o 5 (by omega)) (o 6 (by omega)) (by rw [s11, ml_up_k (by omega)]) pq) (by rw [o 7 (by omega), e7]) (by rw [o 8 (by omega), e8]) (by rw [s11, ml_up_same]; omega) s1 s2 d1 d2 eg (by omega) (fun j j1 j2 => ?_) (by omega)
      by_cases q : j = m - 1
      · subst q; exact eq
      · exact hm j (by omega) j2
  have U40 : ∀ (s : Nat) (σ : ml_St), mt_f46 σ0 σ → mq_q h v cl a n σ → σ 46 7 = s → 1 ≤ s → s ≤ n - a → mr_D h v cl a n s → (∀ p, 1 ≤ p → p < s → ¬ mr_D h v cl a n p) → f_X6_findRule_u40 Q σ := by
    intro s σ f pq e7 s1 s2 d1 d2
    unfold f_X6_findRule_u40
    rw [pq.2.2.1, e7]
    refine fun _ _ => s_growth_x H pq a s (by omega) (fun _ σ4 s4 _ σ6 s6 => ⟨100, ?_⟩)
    have o4 : ∀ b, b ≠ 8 → σ4 46 b = σ 46 b := fun b hb => by rw [s4, ml_up_i hb]
    have o6 : ∀ b, b ≠ 9 → σ6 46 b = σ4 46 b := fun b hb => by rw [s6, ml_up_i hb]
    have f6 : mt_f46 σ σ6 := by rw [s6, s4]; exact mt_f46_t (mt_f46_up (by omega) (by omega)) (mt_f46_up (by omega) (by omega))
    refine S 100 s a _ σ6 (mt_f46_t f f6) (mq_q_k ?_ ?_ ?_ ?_ pq) ?_ ?_ ?_ s1 s2 d1 d2 rfl (Nat.le_refl a) (fun j j1 j2 => by omega) (by omega)
    · rw [o6 4 (by omega), o4 4 (by omega)]
    · rw [o6 5 (by omega), o4 5 (by omega)]
    · rw [o6 6 (by omega), o4 6 (by omega)]
    · rw [s6, ml_up_k (by omega), s4, ml_up_k (by omega)]
    · rw [o6 7 (by omega), o4 7 (by omega), e7]
    · rw [o6 8 (by omega), s4, ml_up_same]
    · rw [s6, ml_up_same, o4 4 (by omega), pq.2.2.1]
  have L : ∀ (N : Nat) (s : Nat) (σ : ml_St), mt_f46 σ0 σ → mq_q h v cl a n σ → σ 46 7 = s → 1 ≤ s → s ≤ n - a → (∀ p, 1 ≤ p → p < s → ¬ mr_D h v cl a n p) → n - a - s < N → f_X6_findRule_u5 Q (f_X6_findRule_u40 Q) N σ := by
    intro N
    induction N with
    | zero => intro s σ _ _ _ _ _ _ hN; omega
    | succ N ih =>
      intro s σ f pq e7 s1 s2 d2 hN
      unfold f_X6_findRule_u5
      rw [e7, pq.2.2.2.1]
      refine fun _ _ => ⟨fun c => ?_, fun c _ => s_isEven_x H pq s s1 s2 (fun d _ => ⟨fun _ => U40 s σ f pq e7 s1 s2 d d2, fun z => absurd z (by omega)⟩) (fun d _ => ⟨fun z => absurd rfl z, fun _ => ?_⟩)⟩
      · have : s = n - a := by omega
        subst this
        exact U40 (n - a) σ f pq e7 s1 s2 (mr_D_n H an (by omega) en) d2
      · rw [e7]
        refine fun _ => ⟨mt_i (by omega) (by omega), fun σ9 s9 => ?_⟩
        have o : ∀ b, b ≠ 7 → σ9 46 b = σ 46 b := fun b hb => by rw [s9, ml_up_i hb]
        refine ih (s + 1) σ9 (mt_f46_t f (by rw [s9]; exact mt_f46_up (by omega) (by omega))) (mq_q_k (o 4 (by omega)) (o 5 (by omega)) (o 6 (by omega)) (by rw [s9, ml_up_k (by omega)]) pq) (by rw [s9, ml_up_same]; omega) (by omega) (by omega) (fun q q1 q2 => ?_) (by omega)
        by_cases z : q = s
        · subst z; exact d
        · exact d2 q q1 (by omega)
  unfold f_X6_findRule f_X6_findRule_u0
  intro σ1 s1
  have o : ∀ b, b ≠ 7 → σ1 46 b = σ0 46 b := fun b hb => by rw [s1, ml_up_i hb]
  exact ⟨100, L 100 1 σ1 (by rw [s1]; exact mt_f46_up (by omega) (by omega)) (mq_q_k (o 4 (by omega)) (o 5 (by omega)) (o 6 (by omega)) (by rw [s1, ml_up_k (by omega)]) p) (by rw [s1, ml_up_same]; rfl) (by omega) (by omega) (fun q q1 q2 => by omega) (by omega)⟩
def mr_an (s m : Nat) (g x : Int) : Int := if x = 0 then (s : Int) else if x = 1 then g else (m : Int) + 1
theorem c_rule_x {Q : Int → ml_St → Prop} {h told ts cap w x : Int} {tb cl pr sz : Int → Int} {T : Int → Int → Int} {σ0 : ml_St} (nb : mq_64) (i : IC h told ts cap tb cl pr sz T σ0) (k1 : mt_md told (mt_mk h T sz) w → 0 ≤ x → x ≤ 2 → ∀ σ (a n s m : Nat) (g : Int), IC h told ts cap tb cl pr sz T σ → (∀ j, 215 ≤ j → σ j = σ0 j) → mq_q h (mt_mk h T sz w) cl a n σ → mr h (mt_mk h T sz w) cl a n s m g → Q (mr_an s m g x) σ) (k0 : ¬ (mt_md told (mt_mk h T sz) w ∧ 0 ≤ x ∧ x ≤ 2) → Q (-1) σ0) : f_X11_rule σ0 w x Q := by
  have t16 := i.1.2.2.2.2.2
  unfold f_X11_rule f_X11_rule_u0
  unfold f_X11_rule_u17 f_X11_rule_u88
  refine c_isMade i (fun q _ => ⟨fun z => absurd z (by omega), fun _ => ⟨fun _ => k0 (by omega), fun x0 => ⟨fun x1 => ⟨q.1, by have := q.2.1; omega, fun _ => ?_⟩, fun _ => k0 (by omega)⟩⟩⟩) (fun q _ => ⟨fun _ => k0 (fun z => q z.1), fun z => absurd rfl z⟩)
  obtain ⟨g1, g2, g3, g4⟩ := IC_w i q.1 q.2.1
  have c := i.2.2.1
  have cv := IC_cv i q.1 q.2.1
  have b20 := mq_20 cv q.2.2
  have h2 := i.1.2.2.1
  have h5 := i.1.2.2.2.1
  rw [i.1.1, show 119 + 6 * w + 2 = 121 + 6 * w by omega]
  refine s_study_x h2 h5 (Or.inr (by have := q.1; omega)) (by have := q.1; omega) g3 g2 c.2.2.2.1 c.2.2.1 (nb h _ h2 h5 g3) (fun σ a n f p => ?_)
  refine s_findRule_x ⟨h2, h5, g3, g4, c.2.2.2.1, b20.1, b20.2⟩ p (fun σ2 s m g f2 p2 e7 e8 e9 hr => ?_)
  have f' := mt_f46_kp (mt_f46_t f f2)
  have kk := k1 q (by omega) (by omega) σ2 a n s m g (IC_kp f' i) (mt_kp_m f') p2 hr
  rw [e7, e8, e9]
  unfold mr_an at kk
  refine ⟨fun z0 => ⟨fun z1 _ => ?_, fun z1 _ => ?_⟩, fun z0 _ => ?_⟩
  · rw [if_neg z0, if_neg z1] at kk; exact kk
  · rw [if_neg z0, if_pos z1] at kk; exact kk
  · rw [if_pos z0] at kk; exact kk
/-- the model -/
theorem s_isRule_x {Q : Int → ml_St → Prop} {h : Int} {v cl : Int → Int} {a n : Nat} {σ : ml_St} (H : mq_h h v cl) (pp : mq_p h v cl a n σ) (p : Nat) (p0 : 1 ≤ p) (p1 : p ≤ n - a) (k1 : mr_D h v cl a n p → Q 1 σ) (k0 : ¬ mr_D h v cl a n p → Q 0 σ) : f_X12_isRule σ p Q := by
  obtain ⟨h2, h5, hv, ov, hc, v0, v1⟩ := H
  obtain ⟨q1, q2, q3, q4, q5, q6, q7, q8, q9⟩ := pp
  have R := fun j (hj : j ≤ 2000) => mt_plo_r (n := j) (by omega) h5 hv hc v0 v1 hj
  have ra := R a (by omega)
  have rp := R (a + p) (by omega)
  have xa := q7 a (by omega)
  have xp := q7 (a + p) (by omega)
  unfold f_X12_isRule f_X12_isRule_u0
  rw [q3]
  refine fun _ => ⟨mt_I (by omega) (by omega), by omega, by omega, fun _ _ => ⟨by omega, by omega, fun _ y7 e7 _ y9 e9 => ⟨1000, ?_⟩⟩⟩
  subst e9
  rw [show (a : Int) + 1 + p = ((a + p : Nat) : Int) + 1 by omega, xa, xp, w64_id ⟨by omega, by omega⟩] at e7
  have L : ∀ (N : Nat) (j : Nat), j ≤ n - a → n - a - j < N → (∀ i, i < j → mt_plo h v cl (a + i + p) - mt_plo h v cl (a + i) = mt_plo h v cl (a + p) - mt_plo h v cl a) → f_X12_isRule_u28 Q (f_X12_isRule_u64 Q) (f_X12_isRule_u72 Q) N σ p y7 (a + 1 + j) := by
    intro N
    induction N with
    | zero => intro j j0 hN; omega
    | succ N ih =>
      intro j j0 hN hj
      unfold f_X12_isRule_u28
      rw [q3, q4]
      refine fun _ _ => ⟨mt_I (by omega) (by omega), fun c => ?_, fun c => ?_⟩
      · unfold f_X12_isRule_u72; exact k1 (fun i hi => hj i (by omega))
      · have x1 := q7 (a + j + p) (by omega)
        have x2 := q7 (a + j) (by omega)
        have r1 := R (a + j + p) (by omega)
        have r2 := R (a + j) (by omega)
        rw [show (a : Int) + 1 + j + p = ((a + j + p : Nat) : Int) + 1 by omega, show (a : Int) + 1 + j = ((a + j : Nat) : Int) + 1 by omega, x1, x2, w64_id ⟨by omega, by omega⟩]
        refine ⟨mt_I (by omega) (by omega), by omega, by omega, fun _ => ⟨by omega, by omega, fun _ => ⟨fun eq => ⟨mt_I (by omega) (by omega), fun y e => ?_⟩, fun ne => ?_⟩⟩⟩
        · have := ih (j + 1) (by omega) (by omega) (fun i hi => by
            by_cases z : i = j
            · subst z; rw [eq, e7]
            · exact hj i (by omega))
          rw [e, show ((a + j : Nat) : Int) + 1 + 1 = a + 1 + ((j + 1 : Nat) : Int) by omega]; exact this
        · unfold f_X12_isRule_u64
          exact k0 (fun d => ne (by rw [d j (by omega), e7]))
  have := L 1000 0 (by omega) (by omega) (fun i hi => by omega)
  rw [show (a : Int) + 1 + ((0 : Nat) : Int) = a + 1 by omega] at this
  exact this
theorem m_rule_x {Q : Int → ml_St → Prop} {h told ts cap w x : Int} {tb cl pr sz : Int → Int} {T : Int → Int → Int} {τ : ml_St} (i : IM h told ts cap tb cl pr sz T τ) (k1 : mt_md told (mt_mk h T sz) w → 0 ≤ x → x ≤ 2 → ∀ σ (a n s m : Nat) (g : Int), IM h told ts cap tb cl pr sz T σ → (∀ j, j < 215 → σ j = τ j) → mq_p h (mt_mk h T sz w) cl a n σ → mr h (mt_mk h T sz w) cl a n s m g → Q (mr_an s m g x) σ) (k0 : ¬ (mt_md told (mt_mk h T sz) w ∧ 0 ≤ x ∧ x ≤ 2) → Q (-1) τ) : f_X12_rule τ w x Q := by
  have h2 := i.1.2.2.1
  have h5 := i.1.2.2.2.1
  unfold f_X12_rule f_X12_rule_u0
  unfold f_X12_rule_u20
  refine m_isMade i (fun q _ => ⟨fun z => absurd z (by omega), fun _ => s_lies (fun x0 x1 _ => ⟨fun _ => m_powers i q (fun σ a n i' j' p => ⟨1000, ?_⟩), fun z => absurd z (by omega)⟩) (fun q2 _ => ⟨fun z => absurd rfl z, fun _ => k0 (fun z => q2 z.2)⟩)⟩) (fun q _ => ⟨fun _ => k0 (fun z => q z.1), fun z => absurd rfl z⟩)
  obtain ⟨g1, hv, ov, g4, g5⟩ := IM_w i q
  have hc := i.2.2.1.2.2.2
  obtain ⟨v0, v1⟩ := mq_20 (IM_cv i q.1 q.2.1).1 q.2.2
  have k1 := fun s m g => k1 q x0 x1 σ a n s m g i' j' p
  clear k0 i' g1 g4 g5
  generalize mt_mk h T sz w = v at *
  have H : mq_h h v cl := ⟨h2, h5, hv, ov, hc, v0, v1⟩
  have p' := p
  obtain ⟨p1, p2, p3, p4, p5, p6, p7, p8, p9⟩ := p
  have R := fun j (hj : j ≤ 2000) => mt_plo_r (n := j) (by omega) h5 hv hc v0 v1 hj
  have E : ∀ s : Nat, 1 ≤ s → s ≤ n - a → mr_D h v cl a n s → (∀ p, 1 ≤ p → p < s → ¬ mr_D h v cl a n p) → f_X12_rule_u45 Q σ x s := by
    intro s s1 s2 d1 d2
    unfold f_X12_rule_u45
    have xa := p7 a (by omega)
    have xp := p7 (a + s) (by omega)
    have ra := R a (by omega)
    have rp := R (a + s) (by omega)
    rw [p3]
    refine fun _ => ⟨mt_I (by omega) (by omega), by omega, by omega, fun _ _ => ⟨by omega, by omega, fun _ y7 e7 _ y9 e9 => ⟨a + 3, ?_⟩⟩⟩
    rw [show (a : Int) + 1 + s = ((a + s : Nat) : Int) + 1 by omega, xa, xp, w64_id ⟨by omega, by omega⟩] at e7
    subst e9
    have L : ∀ (N : Nat) (m : Nat), m ≤ a → m + 1 < N → (∀ j, m ≤ j → j < a → mt_plo h v cl (j + s) - mt_plo h v cl j = y7) → f_X12_rule_u74 Q (f_X12_rule_u113 Q) N σ x s y7 ((m : Int) + 1) := by
      intro N
      induction N with
      | zero => intro m y0 hN; omega
      | succ N ih =>
        intro m y0 hN hm
        have out : (m = 0 ∨ mt_plo h v cl (m - 1 + s) - mt_plo h v cl (m - 1) ≠ y7) → f_X12_rule_u113 Q σ x s y7 ((m : Int) + 1) := fun z => by
          have kk := k1 s m y7 ⟨s1, s2, d1, d2, e7, y0, hm, z⟩
          unfold mr_an at kk
          unfold f_X12_rule_u113 f_X12_rule_u135
          refine ⟨fun z0 => ⟨fun z1 => ?_, fun z1 => ?_⟩, fun z0 => ?_⟩
          · rw [if_neg z0, if_neg z1] at kk; exact kk
          · rw [if_neg z0, if_pos z1] at kk; exact kk
          · rw [if_pos z0] at kk; exact kk
        unfold f_X12_rule_u74
        refine ⟨fun c => out (Or.inl (by omega)), fun c => ?_⟩
        have x1 := p7 (m - 1 + s) (by omega)
        have x2 := p7 (m - 1) (by omega)
        have r1 := R (m - 1 + s) (by omega)
        have r2 := R (m - 1) (by omega)
        rw [show (m : Int) + 1 - 1 + s = ((m - 1 + s : Nat) : Int) + 1 by omega, show (m : Int) + 1 - 1 = ((m - 1 : Nat) : Int) + 1 by omega, x1, x2, w64_id ⟨by omega, by omega⟩]
        refine ⟨mt_I (by omega) (by omega), mt_I (by omega) (by omega), by omega, by omega, fun _ => ⟨mt_I (by omega) (by omega), by omega, by omega, fun _ => ⟨fun ne => out (Or.inr ne), fun eq => ⟨mt_I (by omega) (by omega), fun y9 e => ?_⟩⟩⟩⟩
        rw [e, show (m : Int) + 1 + -1 = ((m - 1 : Nat) : Int) + 1 by omega]
        refine ih (m - 1) (by omega) (by omega) (fun j j1 j2 => ?_)
        by_cases z : j = m - 1
        · subst z; exact eq
        · exact hm j (by omega) j2
    exact L _ a (Nat.le_refl a) (by omega) (fun j j1 j2 => by omega)
  have L : ∀ (N : Nat) (s : Nat), 1 ≤ s → s ≤ n - a → n - a - s < N → (∀ p, 1 ≤ p → p < s → ¬ mr_D h v cl a n p) → f_X12_rule_u31 Q (f_X12_rule_u45 Q) N σ x s := by
    intro N
    induction N with
    | zero => intro j j0 j1 hN; omega
    | succ N ih =>
      intro s s1 s2 hN d2
      unfold f_X12_rule_u31
      refine s_isRule_x H p' s s1 s2 (fun d _ => ⟨fun _ => E s s1 s2 d d2, fun z => absurd z (by omega)⟩) (fun d _ => ⟨fun z => absurd rfl z, fun _ => ⟨mt_I (by omega) (by omega), fun y e => ?_⟩⟩)
      have ne : s ≠ n - a := fun z => d (by rw [z]; exact mr_D_n H p1 (by omega) p8)
      rw [e, show (s : Int) + 1 = ((s + 1 : Nat) : Int) by omega]
      refine ih (s + 1) (by omega) (by omega) (by omega) (fun q q1 q2 => ?_)
      by_cases z : q = s
      · subst z; exact d
      · exact d2 q q1 (by omega)
  exact L 1000 1 (by omega) (by omega) (by omega) (fun q q1 q2 => by omega)
/-! how many powers leave just k loops, and the first one: over whole numbers -/
def mr_sm (b : Int → Int) (lo : Int) : Nat → Int
  | 0 => 0
  | n + 1 => mr_sm b lo n + b (lo + n)
theorem mr_sm_c {b c : Int → Int} {lo : Int} : ∀ n : Nat, (∀ x, lo ≤ x → x < lo + n → b x = c x) → mr_sm b lo n = mr_sm c lo n := by
  intro n
  induction n with
  | zero => intro _; rfl
  | succ n ih => intro h; unfold mr_sm; rw [ih (fun x x0 x1 => h x x0 (by omega)), h _ (by omega) (by omega)]
theorem mr_sm_a {b c d : Int → Int} {lo : Int} : ∀ n : Nat, (∀ x, lo ≤ x → x < lo + n → b x = c x + d x) → mr_sm b lo n = mr_sm c lo n + mr_sm d lo n := by
  intro n
  induction n with
  | zero => intro _; rfl
  | succ n ih =>
    intro h
    have i := ih (fun x x0 x1 => h x x0 (by omega))
    have e := h (lo + n) (by omega) (by omega)
    unfold mr_sm; omega
theorem mr_sm_0 {b : Int → Int} {lo : Int} : ∀ n : Nat, (∀ x, lo ≤ x → x < lo + n → b x = 0) → mr_sm b lo n = 0 := by
  intro n
  induction n with
  | zero => intro _; rfl
  | succ n ih =>
    intro h
    have i := ih (fun x x0 x1 => h x x0 (by omega))
    have e := h (lo + n) (by omega) (by omega)
    unfold mr_sm; omega
theorem mr_sm_1 {b : Int → Int} {lo x0 : Int} : ∀ n : Nat, (∀ x, lo ≤ x → x < lo + n → b x = if x = x0 then 1 else 0) → mr_sm b lo n = if lo ≤ x0 ∧ x0 < lo + n then 1 else 0 := by
  intro n
  induction n with
  | zero => intro _; rw [if_neg (by omega)]; rfl
  | succ n ih =>
    intro h
    have i := ih (fun x x0 x1 => h x x0 (by omega))
    have e := h (lo + n) (by omega) (by omega)
    unfold mr_sm
    rw [i, e]
    by_cases z1 : lo ≤ x0 ∧ x0 < lo + n
    · rw [if_pos z1, if_neg (by omega), if_pos (by omega)]; rfl
    · rw [if_neg z1]
      by_cases z2 : lo + n = x0
      · rw [if_pos z2, if_pos (by omega)]; rfl
      · rw [if_neg z2, if_neg (by omega)]; rfl
theorem mr_S8 {S : Int} (S1 : 1 ≤ S) (S8 : S ≤ 8) : S = 1 ∨ S = 2 ∨ S = 3 ∨ S = 4 ∨ S = 5 ∨ S = 6 ∨ S = 7 ∨ S = 8 := by omega
theorem mr_sm_s {b : Int → Int} {lo low S : Int} (S1 : 1 ≤ S) (S8 : S ≤ 8) (hl : lo ≤ low) : ∀ n : Nat, (∀ x, lo ≤ x → x < lo + n → b x = if low ≤ x ∧ (x - low) % S = 0 then 1 else 0) → mr_sm b lo n = if low < lo + n then (lo + n - 1 - low) / S + 1 else 0 := by
  intro n
  induction n with
  | zero => intro _; rw [if_neg (by omega)]; rfl
  | succ n ih =>
    intro h
    have i := ih (fun x x0 x1 => h x x0 (by omega))
    have e := h (lo + n) (by omega) (by omega)
    unfold mr_sm
    rw [i, e]
    clear i e h ih
    by_cases z1 : low < lo + n
    · rw [if_pos z1]
      by_cases z2 : low ≤ lo + n ∧ (lo + n - low) % S = 0
      · rw [if_pos z2, if_pos (by omega)]
        obtain ⟨-, z2⟩ := z2
        rcases mr_S8 S1 S8 with q | q | q | q | q | q | q | q <;> subst q <;> omega
      · rw [if_neg z2, if_pos (by omega)]
        have z2 : ¬ (lo + n - low) % S = 0 := fun z => z2 ⟨by omega, z⟩
        rcases mr_S8 S1 S8 with q | q | q | q | q | q | q | q <;> subst q <;> omega
    · rw [if_neg z1]
      by_cases z2 : low = lo + n
      · subst z2
        rw [if_pos ⟨Int.le_refl _, by rw [Int.sub_self, Int.zero_emod]⟩, if_pos (by omega)]
        have : lo + ((n + 1 : Nat) : Int) - 1 - (lo + n) = 0 := by omega
        rw [this, Int.zero_ediv]
      · rw [if_neg (fun z => by omega), if_neg (by omega)]; rfl
theorem mr_sm_r {b : Int → Int} {lo : Int} : ∀ n : Nat, (∀ x, lo ≤ x → x < lo + n → 0 ≤ b x ∧ b x ≤ 1) → 0 ≤ mr_sm b lo n ∧ mr_sm b lo n ≤ n := by
  intro n
  induction n with
  | zero => intro _; exact ⟨Int.le_refl 0, Int.le_refl 0⟩
  | succ n ih =>
    intro h
    have i := ih (fun x x0 x1 => h x x0 (by omega))
    have e := h (lo + n) (by omega) (by omega)
    unfold mr_sm; omega
theorem mr_sm_n {b : Int → Int} {lo : Int} : ∀ n : Nat, (∀ x, lo ≤ x → x < lo + n → 0 ≤ b x ∧ b x ≤ 1) → mr_sm b lo n = 0 → ∀ x, lo ≤ x → x < lo + n → b x = 0 := by
  intro n
  induction n with
  | zero => intro _ _ x x0 x1; omega
  | succ n ih =>
    intro h z x x0 x1
    have r := mr_sm_r n (fun x x0 x1 => h x x0 (by omega))
    have e := h (lo + n) (by omega) (by omega)
    unfold mr_sm at z
    by_cases q : x = lo + n
    · subst q; omega
    · exact ih (fun x x0 x1 => h x x0 (by omega)) (by omega) x x0 (by omega)
/-- what is counted -/
def mr_t (f : Int → Int) (k x : Int) : Int := if f x = k then 1 else 0
def mr_d (f : Int → Int) (k j x : Int) : Int := if x < j ∧ f x = k then 1 else 0
def mr_b (f : Int → Int) (B S k i x : Int) : Int := if (B ≤ x ∧ (x - B) % S = i) ∧ f x = k then 1 else 0
def mr_c (f : Int → Int) (B S k N x : Int) : Int := if (x < B ∨ (x - B) % S < N) ∧ f x = k then 1 else 0
theorem mr_t_r (f : Int → Int) (k x : Int) : 0 ≤ mr_t f k x ∧ mr_t f k x ≤ 1 := by unfold mr_t; split <;> omega
theorem mr_d_s (f : Int → Int) (k j x : Int) : mr_d f k (j + 1) x = mr_d f k j x + (if x = j ∧ f j = k then 1 else 0) := by
  unfold mr_d
  by_cases z : x = j
  · subst z
    by_cases q : f x = k
    · rw [if_pos ⟨by omega, q⟩, if_neg (by omega), if_pos ⟨rfl, q⟩]; rfl
    · rw [if_neg (fun y => q y.2), if_neg (fun y => q y.2), if_neg (fun y => q y.2)]; rfl
  · rw [if_neg (c := x = j ∧ f j = k) (fun y => z y.1)]
    by_cases q : x < j ∧ f x = k
    · rw [if_pos q, if_pos ⟨by omega, q.2⟩]; rfl
    · rw [if_neg q, if_neg (fun y => q ⟨by omega, y.2⟩)]; rfl
theorem mr_c_s (f : Int → Int) (B S k N x : Int) (N0 : 0 ≤ N) (S1 : 1 ≤ S) : mr_c f B S k (N + 1) x = mr_c f B S k N x + mr_b f B S k N x := by
  unfold mr_c mr_b
  have m0 := Int.emod_nonneg (x - B) (show S ≠ 0 by omega)
  generalize (x - B) % S = r at *
  by_cases q : f x = k
  · by_cases z : x < B
    · rw [if_pos ⟨Or.inl z, q⟩, if_pos ⟨Or.inl z, q⟩, if_neg (fun y => by omega)]; rfl
    · rcases Int.lt_trichotomy r N with y | y | y
      · rw [if_pos ⟨Or.inr (by omega), q⟩, if_pos ⟨Or.inr y, q⟩, if_neg (fun w => by omega)]; rfl
      · rw [if_pos ⟨Or.inr (by omega), q⟩, if_neg (fun w => by omega), if_pos ⟨⟨by omega, y⟩, q⟩]; rfl
      · rw [if_neg (fun w => by omega), if_neg (fun w => by omega), if_neg (fun w => by omega)]; rfl
  · rw [if_neg (fun y => q y.2), if_neg (fun y => q y.2), if_neg (fun y => q y.2)]; rfl
theorem mr_c_0 (f : Int → Int) (B S k x : Int) (S1 : 1 ≤ S) : mr_c f B S k 0 x = mr_d f k B x := by
  unfold mr_c mr_d
  have m0 := Int.emod_nonneg (x - B) (show S ≠ 0 by omega)
  generalize (x - B) % S = r at *
  by_cases q : x < B ∧ f x = k
  · rw [if_pos q, if_pos ⟨Or.inl q.1, q.2⟩]
  · rw [if_neg q, if_neg (fun y => q ⟨by omega, y.2⟩)]
theorem mr_c_S (f : Int → Int) (B S k x : Int) (S1 : 1 ≤ S) : mr_c f B S k S x = mr_t f k x := by
  unfold mr_c mr_t
  have m1 := Int.emod_lt_of_pos (x - B) (show 0 < S by omega)
  by_cases q : f x = k
  · rw [if_pos q, if_pos ⟨Or.inr m1, q⟩]
  · rw [if_neg q, if_neg (fun y => q y.2)]
/-- chains: f grows by γ over S, from B on -/
def mr_h (f : Int → Int) (B S γ : Int) : Prop := 1 ≤ B ∧ 1 ≤ S ∧ S ≤ 8 ∧ 0 ≤ γ ∧ ∀ x, B ≤ x → f (x + S) = f x + γ
theorem mr_ch {f : Int → Int} {B S γ x : Int} (H : mr_h f B S γ) (hx : B ≤ x) : ∀ t : Nat, f (x + S * t) = f x + γ * t := by
  intro t
  induction t with
  | zero => simp
  | succ t ih =>
    have m := Int.mul_nonneg (show 0 ≤ S by have := H.2.1; omega) (show (0 : Int) ≤ t by omega)
    have e := H.2.2.2.2 (x + S * t) (by omega)
    rw [show ((t + 1 : Nat) : Int) = (t : Int) + 1 by omega, Int.mul_add, Int.mul_add, Int.mul_one, Int.mul_one, ← Int.add_assoc, e, ih]
    omega
theorem mr_in {B S i x : Int} (S1 : 1 ≤ S) (S8 : S ≤ 8) (i0 : 0 ≤ i) (i1 : i < S) : (B ≤ x ∧ (x - B) % S = i) ↔ (B + i ≤ x ∧ (x - (B + i)) % S = 0) := by
  rcases mr_S8 S1 S8 with q | q | q | q | q | q | q | q <;> subst q <;> omega
theorem mr_f {f : Int → Int} {B S γ n x : Int} (H : mr_h f B S γ) (hn : B ≤ n) (hx : n ≤ x) (m : (x - n) % S = 0) : 0 ≤ (x - n) / S ∧ x = n + S * ((x - n) / S) ∧ f x = f n + γ * ((x - n) / S) := by
  have d0 := Int.ediv_nonneg (show 0 ≤ x - n by omega) (show 0 ≤ S by have := H.2.1; omega)
  have md := Int.mul_ediv_add_emod (x - n) S
  rw [m] at md
  have c := mr_ch H hn ((x - n) / S).toNat
  rw [show ((((x - n) / S).toNat : Nat) : Int) = (x - n) / S by omega] at c
  have ex : x = n + S * ((x - n) / S) := by omega
  refine ⟨d0, ex, ?_⟩
  rw [← c, ← ex]
/-- the least of a chain from a place on -/
def mr_low (n fr S : Int) : Int := if fr ≤ n then n else n + (fr - n + S - 1) / S * S
theorem mr_low_p {n fr S : Int} (S1 : 1 ≤ S) (S8 : S ≤ 8) : n ≤ mr_low n fr S ∧ fr ≤ mr_low n fr S ∧ (mr_low n fr S - n) % S = 0 ∧ ∀ x, fr ≤ x → ((n ≤ x ∧ (x - n) % S = 0) ↔ (mr_low n fr S ≤ x ∧ (x - mr_low n fr S) % S = 0)) := by
  unfold mr_low
  by_cases z : fr ≤ n
  · rw [if_pos z]
    refine ⟨by omega, by omega, by rw [Int.sub_self, Int.zero_emod], fun x _ => Iff.rfl⟩
  · rw [if_neg z]
    rcases mr_S8 S1 S8 with q | q | q | q | q | q | q | q <;> subst q <;> exact ⟨by omega, by omega, by omega, fun x x0 => by omega⟩
/-- the class: the first of a chain that leaves k -/
def mr_ff (f : Int → Int) (S γ k n : Int) : Int := if k - f n = 0 then n else if k - f n < 0 ∨ γ ≤ 0 ∨ (k - f n) % γ ≠ 0 then -1 else n + (k - f n) / γ * S
theorem mr_ff_p {f : Int → Int} {B S γ k n : Int} (H : mr_h f B S γ) (hn : B ≤ n) : (mr_ff f S γ k n = -1 ∧ ∀ x, n ≤ x → (x - n) % S = 0 → f x ≠ k) ∨ (n ≤ mr_ff f S γ k n ∧ (mr_ff f S γ k n - n) % S = 0 ∧ f (mr_ff f S γ k n) = k ∧ (0 < γ → ∀ x, n ≤ x → (x - n) % S = 0 → f x = k → x = mr_ff f S γ k n) ∧ (γ ≤ 0 → mr_ff f S γ k n = n ∧ ∀ x, n ≤ x → (x - n) % S = 0 → f x = k)) := by
  have g0 := H.2.2.2.1
  have B1 := H.1
  unfold mr_ff
  by_cases z : k - f n = 0
  · rw [if_pos z]
    refine Or.inr ⟨by omega, by rw [Int.sub_self, Int.zero_emod], by omega, fun gp x x0 m e => ?_, fun gz => ⟨rfl, fun x x0 m => ?_⟩⟩
    · obtain ⟨d0, ex, ef⟩ := mr_f H hn x0 m
      have : γ * ((x - n) / S) = 0 := by omega
      rcases Int.mul_eq_zero.mp this with q | q
      · omega
      · rw [q] at ex; omega
    · obtain ⟨d0, ex, ef⟩ := mr_f H hn x0 m
      rw [show γ = 0 by omega, Int.zero_mul] at ef; omega
  · rw [if_neg z]
    by_cases y : k - f n < 0 ∨ γ ≤ 0 ∨ (k - f n) % γ ≠ 0
    · rw [if_pos y]
      refine Or.inl ⟨rfl, fun x x0 m e => ?_⟩
      obtain ⟨d0, ex, ef⟩ := mr_f H hn x0 m
      have gm := Int.mul_nonneg g0 d0
      rcases y with y | y | y
      · omega
      · rw [show γ = 0 by omega, Int.zero_mul] at ef; omega
      · refine y ?_
        rw [← e, ef, show f n + γ * ((x - n) / S) - f n = γ * ((x - n) / S) by omega, Int.mul_emod_right]
    · rw [if_neg y]
      have y1 : 0 ≤ k - f n := by omega
      have y2 : 0 < γ := by omega
      have y3 : (k - f n) % γ = 0 := Classical.byContradiction (fun w => y (Or.inr (Or.inr w)))
      have t0 := Int.ediv_nonneg y1 (show 0 ≤ γ by omega)
      have md := Int.mul_ediv_add_emod (k - f n) γ
      rw [y3] at md
      have c := mr_ch H hn ((k - f n) / γ).toNat
      rw [show ((((k - f n) / γ).toNat : Nat) : Int) = (k - f n) / γ by omega] at c
      rw [Int.mul_comm ((k - f n) / γ) S]
      have sm := Int.mul_nonneg (show 0 ≤ S by have := H.2.1; omega) t0
      refine Or.inr ⟨by omega, ?_, by omega, fun _ x x0 m e => ?_, fun gz => by omega⟩
      · rw [show n + S * ((k - f n) / γ) - n = S * ((k - f n) / γ) by omega, Int.mul_emod_right]
      · obtain ⟨d0, ex, ef⟩ := mr_f H hn x0 m
        have : γ * ((x - n) / S) = γ * ((k - f n) / γ) := by omega
        rw [← Int.eq_of_mul_eq_mul_left (show γ ≠ 0 by omega) this]; exact ex
/-- how many of a chain leave k, in a stretch -/
theorem mr_hm {f : Int → Int} {B S γ k i fr to : Int} (H : mr_h f B S γ) (i0 : 0 ≤ i) (i1 : i < S) (ft : fr ≤ to) (f1 : 1 ≤ fr) : mr_sm (mr_b f B S k i) fr (to - fr + 1).toNat = (if mr_ff f S γ k (B + i) = -1 ∨ to < mr_ff f S γ k (B + i) then 0 else if 0 < γ then (if fr ≤ mr_ff f S γ k (B + i) then 1 else 0) else if to < mr_low (mr_ff f S γ k (B + i)) fr S then 0 else (to - mr_low (mr_ff f S γ k (B + i)) fr S) / S + 1) := by
  have S1 := H.2.1
  have S8 := H.2.2.1
  have B1 := H.1
  have E : (((to - fr + 1).toNat : Nat) : Int) = to - fr + 1 := by omega
  have P := mr_ff_p (k := k) H (show B ≤ B + i by omega)
  generalize mr_ff f S γ k (B + i) = n at *
  have ib : ∀ x, mr_b f B S k i x = if (B + i ≤ x ∧ (x - (B + i)) % S = 0) ∧ f x = k then 1 else 0 := fun x => by
    unfold mr_b
    have m := mr_in (B := B) (x := x) S1 S8 i0 i1
    by_cases q : (B ≤ x ∧ (x - B) % S = i) ∧ f x = k
    · rw [if_pos q, if_pos ⟨m.1 q.1, q.2⟩]
    · rw [if_neg q, if_neg (fun y => q ⟨m.2 y.1, y.2⟩)]
  rcases P with ⟨p1, p2⟩ | ⟨p1, p2, p3, p4, p5⟩
  · rw [if_pos (Or.inl p1)]
    exact mr_sm_0 _ (fun x _ _ => by rw [ib x, if_neg (fun y => p2 x y.1.1 y.1.2 y.2)])
  · have n1 : n ≠ -1 := by omega
    by_cases gp : 0 < γ
    · have s := mr_sm_1 (b := mr_b f B S k i) (lo := fr) (x0 := n) (to - fr + 1).toNat (fun x _ _ => by
        rw [ib x]
        by_cases q : x = n
        · subst q; rw [if_pos ⟨⟨p1, p2⟩, p3⟩, if_pos rfl]
        · rw [if_neg q, if_neg (fun y => q (p4 gp x y.1.1 y.1.2 y.2))])
      rw [s, if_pos gp]
      by_cases z : to < n
      · rw [if_pos (c := n = -1 ∨ to < n) (Or.inr z), if_neg (by omega)]
      · rw [if_neg (c := n = -1 ∨ to < n) (fun y => by omega)]
        by_cases z2 : fr ≤ n
        · rw [if_pos z2, if_pos (by omega)]
        · rw [if_neg z2, if_neg (by omega)]
    · obtain ⟨q1, q2⟩ := p5 (by omega)
      rw [if_neg gp]
      obtain ⟨l1, l2, l3, l4⟩ := mr_low_p (n := n) (fr := fr) S1 S8
      have s := mr_sm_s (b := mr_b f B S k i) (lo := fr) (low := mr_low n fr S) S1 S8 l2 (to - fr + 1).toNat (fun x x0 _ => by
        rw [ib x]
        have l4 := l4 x x0
        by_cases q : B + i ≤ x ∧ (x - (B + i)) % S = 0
        · rw [if_pos ⟨q, q2 x q.1 q.2⟩, if_pos (l4.1 (by rw [q1]; exact q))]
        · rw [if_neg (fun y => q y.1), if_neg (fun y => q (by rw [← q1]; exact l4.2 y))])
      rw [s, E]
      by_cases z : to < n
      · rw [if_pos (c := n = -1 ∨ to < n) (Or.inr z), if_neg (by omega)]
      · rw [if_neg (c := n = -1 ∨ to < n) (fun y => by omega)]
        by_cases z2 : to < mr_low n fr S
        · rw [if_pos z2, if_neg (by omega)]
        · rw [if_neg z2, if_pos (by omega), show fr + (to - fr + 1) - 1 - mr_low n fr S = to - mr_low n fr S by omega]
/-! those and first: both sides answer alike -/
def mr_U (h : Int) (v cl : Int → Int) (a n : Nat) (x : Int) : Int := if x ≤ a then mt_plo h v cl (x - 1).toNat else mt_plo h v cl (a + ((x - 1 - a) % (n - a)).toNat) + ((x - 1 - a) / (n - a)) * (mt_plo h v cl n - mt_plo h v cl a)
theorem mr_U_s {h : Int} {v cl : Int → Int} {a n : Nat} (H : mq_h h v cl) (an : a < n) (e : mt_eq h (mt_pp h v a) (mt_pp h v n)) {x : Nat} (hx : x ≤ 2000) : mr_U h v cl a n ((x : Int) + 1) = mt_plo h v cl x := by
  have l := mq_lv_s H an e hx
  obtain ⟨f1, f2, f3⟩ := mt_plo_r (n := x) (by have := H.1; omega) H.2.1 H.2.2.1 H.2.2.2.2.1 H.2.2.2.2.2.1 H.2.2.2.2.2.2 hx
  unfold mq_lv mt_top at l
  unfold mr_U
  omega
theorem mr_8 {S y : Int} (S1 : 1 ≤ S) (S8 : S ≤ 8) : (y + S) % S = y % S ∧ (y + S) / S = y / S + 1 := by
  rcases mr_S8 S1 S8 with q | q | q | q | q | q | q | q <;> subst q <;> omega
theorem mr_ch2 {f : Int → Int} {B s g x : Int} (s0 : 0 ≤ s) (H : ∀ x, B ≤ x → f (x + s) = f x + g) (hx : B ≤ x) : ∀ t : Nat, f (x + s * t) = f x + g * t := by
  intro t
  induction t with
  | zero => simp
  | succ t ih =>
    have m := Int.mul_nonneg s0 (show (0 : Int) ≤ t by omega)
    have e := H (x + s * t) (by omega)
    rw [show ((t + 1 : Nat) : Int) = (t : Int) + 1 by omega, Int.mul_add, Int.mul_add, Int.mul_one, Int.mul_one, ← Int.add_assoc, e, ih]
    omega
theorem mr_H1 {h : Int} {v cl : Int → Int} {a n : Nat} (H : mq_h h v cl) (an : a < n) (n8 : n ≤ 8) (e : mt_eq h (mt_pp h v a) (mt_pp h v n)) : mr_h (mr_U h v cl a n) (a + 1) (n - a) (mt_plo h v cl n - mt_plo h v cl a) := by
  have g := (mt_plo_g (by have := H.1; omega) H.2.1 H.2.2.1 H.2.2.2.1 H.2.2.2.2.1 H.2.2.2.2.2.1 H.2.2.2.2.2.2 (Nat.le_of_lt an) e 0 (by omega)).2
  refine ⟨by omega, by omega, by omega, by omega, fun x x0 => ?_⟩
  obtain ⟨m1, m2⟩ := mr_8 (S := (n : Int) - a) (y := x - 1 - a) (by omega) (by omega)
  unfold mr_U
  rw [if_neg (by omega), if_neg (by omega), show x + ((n : Int) - a) - 1 - a = x - 1 - a + (n - a) by omega, m1, m2, Int.add_mul, Int.one_mul]
  omega
theorem mr_H2 {h : Int} {v cl : Int → Int} {a n s m : Nat} {g : Int} (H : mq_h h v cl) (an : a < n) (n8 : n ≤ 8) (e : mt_eq h (mt_pp h v a) (mt_pp h v n)) (r : mr h v cl a n s m g) : mr_h (mr_U h v cl a n) (m + 1) s g := by
  obtain ⟨r1, r2, r3, r4, r5, r6, r7, r8⟩ := r
  have h1 := mr_H1 H an n8 e
  have C : ∀ x, (a : Int) + 1 ≤ x → mr_U h v cl a n (x + s) = mr_U h v cl a n x + g := by
    intro x x0
    have md := Int.mul_ediv_add_emod (x - 1 - a) ((n : Int) - a)
    have m0 := Int.emod_nonneg (x - 1 - a) (show (n : Int) - a ≠ 0 by omega)
    have m1 := Int.emod_lt_of_pos (x - 1 - a) (show 0 < (n : Int) - a by omega)
    have d0 := Int.ediv_nonneg (show 0 ≤ x - 1 - a by omega) (show 0 ≤ (n : Int) - a by omega)
    generalize (x - 1 - (a : Int)) % (n - a) = r at *
    generalize (x - 1 - (a : Int)) / (n - a) = t at *
    have c1 := mr_ch h1 (x := (a : Int) + 1 + r) (by omega) t.toNat
    have c2 := mr_ch h1 (x := (a : Int) + 1 + r + s) (by omega) t.toNat
    rw [show ((t.toNat : Nat) : Int) = t by omega] at c1 c2
    have u1 := mr_U_s (cl := cl) H an e (x := a + r.toNat) (by omega)
    have u2 := mr_U_s (cl := cl) H an e (x := a + r.toNat + s) (by omega)
    have d := r3 r.toNat (by omega)
    rw [show ((a + r.toNat : Nat) : Int) + 1 = a + 1 + r by omega] at u1
    rw [show ((a + r.toNat + s : Nat) : Int) + 1 = a + 1 + r + s by omega] at u2
    rw [show x + s = (a : Int) + 1 + r + s + (n - a) * t by omega, c2, u2]
    rw [show x = (a : Int) + 1 + r + (n - a) * t by omega, c1, u1]
    omega
  refine ⟨by omega, by omega, by omega, ?_, fun x x0 => ?_⟩
  · have c1 := mr_ch2 (s := s) (B := (a : Int) + 1) (x := (a : Int) + 1) (by omega) C (Int.le_refl _) (n - a)
    have c2 := mr_ch h1 (x := (a : Int) + 1) (Int.le_refl _) s
    rw [show ((n - a : Nat) : Int) = (n : Int) - a by omega, Int.mul_comm (s : Int)] at c1
    have g0 := Int.mul_nonneg h1.2.2.2.1 (show (0 : Int) ≤ s by omega)
    rcases Int.lt_or_le g 0 with z | z
    · have := Int.mul_neg_of_neg_of_pos z (show 0 < (n : Int) - a by omega)
      omega
    · exact z
  · rcases Int.lt_or_le (a : Int) x with z | z
    · exact C x (by omega)
    · have u1 := mr_U_s (cl := cl) H an e (x := (x - 1).toNat) (by omega)
      have u2 := mr_U_s (cl := cl) H an e (x := (x - 1).toNat + s) (by omega)
      have d := r7 (x - 1).toNat (by omega) (by omega)
      rw [show (((x - 1).toNat : Nat) : Int) + 1 = x by omega] at u1
      rw [show (((x - 1).toNat + s : Nat) : Int) + 1 = x + s by omega] at u2
      omega
/-- the least of a chain -/
theorem mr_ff_l {f : Int → Int} {B S γ k n : Int} (H : mr_h f B S γ) (hn : B ≤ n) : (mr_ff f S γ k n = -1 ∧ ∀ x, n ≤ x → (x - n) % S = 0 → f x ≠ k) ∨ (n ≤ mr_ff f S γ k n ∧ (mr_ff f S γ k n - n) % S = 0 ∧ f (mr_ff f S γ k n) = k ∧ ∀ x, n ≤ x → (x - n) % S = 0 → f x = k → mr_ff f S γ k n ≤ x) := by
  rcases mr_ff_p (k := k) H hn with p | ⟨p1, p2, p3, p4, p5⟩
  · exact Or.inl p
  · refine Or.inr ⟨p1, p2, p3, fun x x0 m e => ?_⟩
    by_cases g : 0 < γ
    · rw [p4 g x x0 m e]; exact Int.le_refl _
    · rw [(p5 (by omega)).1]; exact x0
/-- the class -/
theorem s_firstFrom_x {Q : Int → ml_St → Prop} {h : Int} {v cl : Int → Int} {a n s m y : Nat} {g K : Int} {σ : ml_St} (H : mq_h h v cl) (p : mq_q h v cl a n σ) (n8 : n ≤ 8) (hr : mr h v cl a n s m g) (e7 : σ 46 7 = s) (e8 : σ 46 8 = g) (y0 : m ≤ y) (y9 : y ≤ 1000) (K0 : 0 ≤ K) (K1 : K ≤ 1000000000000000000) (k : Q (mr_ff (mr_U h v cl a n) s g K ((y : Int) + 1)) σ) : f_X6_firstFrom σ ((y : Int) + 1) K Q := by
  obtain ⟨h2, h5, hv, ov, hc, v0, v1⟩ := id H
  have R := mt_plo_r (n := y) (by omega) h5 hv hc v0 v1 (by omega)
  have l := mq_lv_s (cl := cl) H p.1 p.2.2.2.2.2.2.1 (x := y) (by omega)
  have u := mr_U_s (cl := cl) H p.1 p.2.2.2.2.2.2.1 (x := y) (by omega)
  have hh := mr_H2 H p.1 n8 p.2.2.2.2.2.2.1 hr
  have s8 := hh.2.2.1
  have g0 := hh.2.2.2.1
  unfold mr_ff at k
  rw [u] at k
  unfold f_X6_firstFrom f_X6_firstFrom_u0
  unfold f_X6_firstFrom_u48
  refine s_loopsOf_x (by omega) h5 hv ov hc v0 v1 p (by omega) (by omega) (fun _ y3 e3 => ?_)
  rw [l, w64_id ⟨by omega, by omega⟩] at e3
  rw [← e3] at k
  rw [e7, e8]
  refine ⟨fun z => ⟨fun z1 => ?_, fun z1 _ => ⟨fun z2 => ?_, fun z2 _ => ⟨by omega, fun z3 _ => ⟨by omega, fun _ => ?_⟩, fun z3 => ?_⟩⟩⟩, fun z => ?_⟩
  · rw [if_neg z, if_pos (Or.inl z1)] at k; exact k
  · rw [if_neg z, if_pos (Or.inr (Or.inl z2))] at k; exact k
  · rw [Int.tmod_eq_emod_of_nonneg (by omega)] at z3
    rw [if_neg z, if_neg (by omega)] at k
    rw [Int.tdiv_eq_ediv_of_nonneg (by omega)]
    have q0 := Int.ediv_nonneg (show 0 ≤ y3 by omega) (show 0 ≤ g by omega)
    have q1 := Int.ediv_le_self g (show 0 ≤ y3 by omega)
    have q2 := Int.mul_le_mul_of_nonneg_left (show (s : Int) ≤ 8 by omega) q0
    have q3 := Int.mul_nonneg q0 (show (0 : Int) ≤ s by omega)
    generalize y3 / g = t at *
    rw [w64_id (x := t) ⟨by omega, by omega⟩, w64_id (x := t * s) ⟨by omega, by omega⟩, w64_id ⟨by omega, by omega⟩]
    exact k
  · rw [Int.tmod_eq_emod_of_nonneg (by omega)] at z3
    rw [if_neg z, if_pos (Or.inr (Or.inr z3))] at k; exact k
  · rw [if_pos z] at k; exact k
theorem s_howManyFrom_x {Q : Int → ml_St → Prop} {h : Int} {v cl : Int → Int} {a n s m i : Nat} {g K fr to : Int} {σ : ml_St} (H : mq_h h v cl) (p : mq_q h v cl a n σ) (n8 : n ≤ 8) (hr : mr h v cl a n s m g) (e7 : σ 46 7 = s) (e8 : σ 46 8 = g) (i1 : i < s) (K0 : 0 ≤ K) (K1 : K ≤ 1000000000000000000) (f1 : 1 ≤ fr) (ft : fr ≤ to) (t1 : to ≤ 1000000000000000000) (k : Q (mr_sm (mr_b (mr_U h v cl a n) (m + 1) s K i) fr (to - fr + 1).toNat) σ) : f_X6_howManyFrom σ ((m : Int) + 1 + i) K fr to Q := by
  have hh := mr_H2 H p.1 n8 p.2.2.2.2.2.2.1 hr
  have s8 := hh.2.2.1
  have r6 := hr.2.2.2.2.2.1
  have an := p.1
  have P := mr_ff_p (k := K) hh (show (m : Int) + 1 ≤ (m : Int) + 1 + i by omega)
  rw [mr_hm (i := (i : Int)) hh (by omega) (by omega) ft f1] at k
  unfold f_X6_howManyFrom f_X6_howManyFrom_u0
  unfold f_X6_howManyFrom_u25 f_X6_howManyFrom_u49 f_X6_howManyFrom_u91 f_X6_howManyFrom_u118
  have go := s_firstFrom_x (Q := fun r1 σ1 => ∀ _ : I64 r1, (r1 = (-1) → Q 0 σ1) ∧ (r1 ≠ (-1) → (r1 ≤ to → ∀ _ : I64 (σ1 46 8), (((σ1 46 8) : Int) ≤ 0 → (r1 < fr → ∀ _ : I32 (σ1 46 7), ∀ _ : I32 (σ1 46 7), ((σ1 46 7) : Int) ≠ 0 ∧ ∀ _ : I32 (σ1 46 7), f_X6_howManyFrom_u91 Q σ1 to (w64 (r1 + (w64 ((w64 (Int.tdiv (w64 ((w64 ((w64 (fr - r1)) + (σ1 46 7))) - 1)) (σ1 46 7))) * (σ1 46 7)))))) ∧ (¬ (r1 < fr) → f_X6_howManyFrom_u91 Q σ1 to r1)) ∧ (¬ (((σ1 46 8) : Int) ≤ 0) → (r1 < fr → Q 0 σ1) ∧ (¬ (r1 < fr) → Q 1 σ1))) ∧ (¬ (r1 ≤ to) → Q 0 σ1))) H p n8 hr e7 e8 (y := m + i) (by omega) (by omega) K0 K1
  rw [show ((m + i : Nat) : Int) + 1 = (m : Int) + 1 + i by omega] at go
  refine go (fun _ => ?_)
  generalize mr_ff (mr_U h v cl a n) s g K ((m : Int) + 1 + i) = r at *
  rw [e7, e8]
  have u91 : ∀ low, fr ≤ low → low = mr_low r fr s → r ≠ -1 → r ≤ to → g ≤ 0 → f_X6_howManyFrom_u91 Q σ to low := by
    intro low l0 el r1 r2 g0
    rw [if_neg (by omega), if_neg (by omega), ← el] at k
    unfold f_X6_howManyFrom_u91
    unfold f_X6_howManyFrom_u118
    rw [e7]
    refine ⟨fun z _ => ⟨by omega, ?_⟩, fun z => ?_⟩
    · rw [if_neg (by omega)] at k
      have d0 := Int.ediv_nonneg (show 0 ≤ to - low by omega) (show (0 : Int) ≤ s by omega)
      have d1 := Int.ediv_le_self (s : Int) (show 0 ≤ to - low by omega)
      rw [w64_id (x := to - low) ⟨by omega, by omega⟩, Int.tdiv_eq_ediv_of_nonneg (by omega), w64_id (x := (to - low) / s) ⟨by omega, by omega⟩, w64_id ⟨by omega, by omega⟩]
      exact k
    · rw [if_pos (by omega)] at k; exact k
  refine ⟨fun z => ?_, fun z => ⟨fun z1 _ => ⟨fun z2 => ⟨fun z3 _ _ => ⟨by omega, fun _ => ?_⟩, fun z3 => ?_⟩, fun z2 => ⟨fun z3 => ?_, fun z3 => ?_⟩⟩, fun z1 => ?_⟩⟩
  · rw [if_pos (Or.inl z)] at k; exact k
  · obtain ⟨l1, l2, l3, l4⟩ := mr_low_p (n := r) (fr := fr) (S := s) (by omega) s8
    have r0 : 1 ≤ r := by omega
    refine u91 _ ?_ ?_ z z1 z2
    · refine Int.le_trans l2 (Int.le_of_eq ?_)
      unfold mr_low
      rw [if_neg (by omega)]
      have d0 := Int.ediv_nonneg (show 0 ≤ fr - r + s - 1 by omega) (show (0 : Int) ≤ s by omega)
      have d1 := Int.ediv_le_self (s : Int) (show 0 ≤ fr - r + s - 1 by omega)
      have d2 := Int.ediv_mul_le (fr - r + s - 1) (show (s : Int) ≠ 0 by omega)
      have d3 := Int.mul_nonneg d0 (show (0 : Int) ≤ s by omega)
      rw [w64_id (x := fr - r) ⟨by omega, by omega⟩, w64_id (x := fr - r + s) ⟨by omega, by omega⟩, w64_id (x := fr - r + s - 1) ⟨by omega, by omega⟩, Int.tdiv_eq_ediv_of_nonneg (by omega), w64_id (x := (fr - r + s - 1) / s) ⟨by omega, by omega⟩, w64_id (x := (fr - r + s - 1) / s * s) ⟨by omega, by omega⟩, w64_id ⟨by omega, by omega⟩]
    · unfold mr_low
      rw [if_neg (by omega)]
      have d0 := Int.ediv_nonneg (show 0 ≤ fr - r + s - 1 by omega) (show (0 : Int) ≤ s by omega)
      have d1 := Int.ediv_le_self (s : Int) (show 0 ≤ fr - r + s - 1 by omega)
      have d2 := Int.ediv_mul_le (fr - r + s - 1) (show (s : Int) ≠ 0 by omega)
      have d3 := Int.mul_nonneg d0 (show (0 : Int) ≤ s by omega)
      rw [w64_id (x := fr - r) ⟨by omega, by omega⟩, w64_id (x := fr - r + s) ⟨by omega, by omega⟩, w64_id (x := fr - r + s - 1) ⟨by omega, by omega⟩, Int.tdiv_eq_ediv_of_nonneg (by omega), w64_id (x := (fr - r + s - 1) / s) ⟨by omega, by omega⟩, w64_id (x := (fr - r + s - 1) / s * s) ⟨by omega, by omega⟩, w64_id ⟨by omega, by omega⟩]
  · exact u91 r (by omega) (by unfold mr_low; rw [if_pos (by omega)]) z z1 z2
  · rw [if_neg (by omega), if_pos (by omega), if_neg (by omega)] at k; exact k
  · rw [if_neg (by omega), if_pos (by omega), if_pos (by omega)] at k; exact k
  · rw [if_pos (by omega)] at k; exact k
theorem s_howMany_x {Q : Int → ml_St → Prop} {h : Int} {v cl : Int → Int} {a n s m : Nat} {g K fr to : Int} {σ : ml_St} (H : mq_h h v cl) (p : mq_q h v cl a n σ) (n8 : n ≤ 8) (hr : mr h v cl a n s m g) (e7 : σ 46 7 = s) (e8 : σ 46 8 = g) (e9 : σ 46 9 = m + 1) (K0 : 0 ≤ K) (K1 : K ≤ 1000000000000000000) (f1 : 1 ≤ fr) (ft : fr ≤ to) (t1 : to ≤ 1000000000000000000) (k : Q (mr_sm (mr_t (mr_U h v cl a n) K) fr (to - fr + 1).toNat) σ) : f_X6_howMany σ K fr to Q := by
  obtain ⟨h2, h5, hv, ov, hc, v0, v1⟩ := id H
  have hh := mr_H2 H p.1 n8 p.2.2.2.2.2.2.1 hr
  have s8 := hh.2.2.1
  have r6 := hr.2.2.2.2.2.1
  have r1 := hr.1
  have an := p.1
  have E : (((to - fr + 1).toNat : Nat) : Int) = to - fr + 1 := by omega
  have L2 : ∀ (N : Nat) (i : Nat), i ≤ s → s - i < N → f_X6_howMany_u59 Q (f_X6_howMany_u94 Q) N σ K fr to (mr_sm (mr_c (mr_U h v cl a n) (m + 1) s K i) fr (to - fr + 1).toNat) i := by
    intro N
    induction N with
    | zero => intro i i1 hN; omega
    | succ N ih =>
      intro i i1 hN
      unfold f_X6_howMany_u59
      unfold f_X6_howMany_u94
      rw [e7, e9]
      refine fun _ => ⟨fun c => ?_, fun c _ => ⟨mt_i (by omega) (by omega), s_howManyFrom_x H p n8 hr e7 e8 (by omega) K0 K1 f1 ft t1 (fun _ y7 e => ⟨mt_i (by omega) (by omega), fun y8 e8 => ?_⟩)⟩⟩
      · have : i = s := by omega
        subst this
        rw [mr_sm_c _ (fun x _ _ => mr_c_S (mr_U h v cl a n) (m + 1) i K x (by omega))]
        exact k
      · have ea := mr_sm_a (b := mr_c (mr_U h v cl a n) (m + 1) s K (i + 1)) (c := mr_c (mr_U h v cl a n) (m + 1) s K i) (d := mr_b (mr_U h v cl a n) (m + 1) s K i) (lo := fr) (to - fr + 1).toNat (fun x _ _ => mr_c_s _ _ _ _ _ _ (by omega) (by omega))
        have q := mr_sm_r (b := mr_c (mr_U h v cl a n) (m + 1) s K (i + 1)) (lo := fr) (to - fr + 1).toNat (fun x _ _ => by unfold mr_c; split <;> omega)
        rw [← ea, w64_id ⟨by omega, by omega⟩] at e
        rw [e, e8, show (i : Int) + 1 = ((i + 1 : Nat) : Int) by omega]
        exact ih (i + 1) (by omega) (by omega)
  have L1 : ∀ (N : Nat) (j : Nat), j ≤ m → m - j < N → f_X6_howMany_u6 Q (f_X6_howMany_u56 Q) N σ K fr to (mr_sm (mr_d (mr_U h v cl a n) K (j + 1)) fr (to - fr + 1).toNat) (j + 1) := by
    intro N
    induction N with
    | zero => intro j j1 hN; omega
    | succ N ih =>
      intro j j1 hN
      unfold f_X6_howMany_u6
      rw [e9]
      have nx : ∀ y, y = mr_sm (mr_d (mr_U h v cl a n) K (j + 1 + 1)) fr (to - fr + 1).toNat → j < m → f_X6_howMany_u50 Q (f_X6_howMany_u6 Q (f_X6_howMany_u56 Q) N) σ K fr to y ((j : Int) + 1) := by
        intro y e hn
        unfold f_X6_howMany_u50
        refine ⟨mt_i (by omega) (by omega), fun y1 e1 => ?_⟩
        rw [e1, e, show (j : Int) + 1 = ((j + 1 : Nat) : Int) by omega]
        exact ih (j + 1) (by omega) (by omega)
      refine fun _ => ⟨fun c => ⟨100, ?_⟩, fun c => ?_⟩
      · have : j = m := by omega
        subst this
        rw [mr_sm_c _ (fun x _ _ => (mr_c_0 (mr_U h v cl a n) (j + 1) s K x (by omega)).symm)]
        exact L2 100 0 (by omega) (by omega)
      · have l := mq_lv_s (cl := cl) H p.1 p.2.2.2.2.2.2.1 (x := j) (by omega)
        have u := mr_U_s (cl := cl) H p.1 p.2.2.2.2.2.2.1 (x := j) (by omega)
        have ea := mr_sm_a (b := mr_d (mr_U h v cl a n) K (j + 1 + 1)) (c := mr_d (mr_U h v cl a n) K (j + 1)) (d := fun x => if x = (j : Int) + 1 ∧ mr_U h v cl a n ((j : Int) + 1) = K then 1 else 0) (lo := fr) (to - fr + 1).toNat (fun x _ _ => mr_d_s _ _ _ _)
        have q := mr_sm_r (b := mr_d (mr_U h v cl a n) K (j + 1 + 1)) (lo := fr) (to - fr + 1).toNat (fun x _ _ => by unfold mr_d; split <;> omega)
        refine s_loopsOf_x (by omega) h5 hv ov hc v0 v1 p (by omega) (by omega) (fun _ => ?_)
        rw [l, ← u]
        refine ⟨fun z => nx _ ?_ (by omega), fun z => ⟨fun z2 => nx _ ?_ (by omega), fun z2 => ⟨fun z3 => nx _ ?_ (by omega), fun z3 y8 e => nx _ ?_ (by omega)⟩⟩⟩
        · rw [ea, mr_sm_0 (b := fun x => if x = (j : Int) + 1 ∧ mr_U h v cl a n ((j : Int) + 1) = K then 1 else 0) _ (fun x _ _ => if_neg (fun y => z y.2))]; omega
        · rw [ea, mr_sm_0 (b := fun x => if x = (j : Int) + 1 ∧ mr_U h v cl a n ((j : Int) + 1) = K then 1 else 0) _ (fun x _ _ => if_neg (fun y => by omega))]; omega
        · rw [ea, mr_sm_0 (b := fun x => if x = (j : Int) + 1 ∧ mr_U h v cl a n ((j : Int) + 1) = K then 1 else 0) _ (fun x _ _ => if_neg (fun y => by omega))]; omega
        · have one := mr_sm_1 (b := fun x => if x = (j : Int) + 1 ∧ mr_U h v cl a n ((j : Int) + 1) = K then 1 else 0) (lo := fr) (x0 := (j : Int) + 1) (to - fr + 1).toNat (fun x _ _ => by
            by_cases q : x = (j : Int) + 1
            · rw [if_pos ⟨q, z⟩, if_pos q]
            · rw [if_neg (fun y => q y.1), if_neg q])
          rw [if_pos (by omega)] at one
          rw [ea, one] at q
          rw [e, ea, one]
          exact w64_id ⟨by omega, by omega⟩
  unfold f_X6_howMany f_X6_howMany_u0
  have := L1 100 0 (by omega) (by omega)
  rw [mr_sm_0 (b := mr_d (mr_U h v cl a n) K ((0 : Nat) + 1)) _ (fun x x0 _ => by unfold mr_d; exact if_neg (fun y => by omega))] at this
  exact ⟨100, this⟩
/-! first (both sides) and those (of the model) -/
def mr_fst (f : Int → Int) (K r : Int) : Prop := (r = -1 ∧ ∀ x, 1 ≤ x → x ≤ 1000000000000000000 → f x ≠ K) ∨ (1 ≤ r ∧ r ≤ 1000000000000000000 ∧ f r = K ∧ ∀ x, 1 ≤ x → x < r → f x ≠ K)
theorem mr_fst_u {f : Int → Int} {K r r' : Int} (a : mr_fst f K r) (b : mr_fst f K r') : r = r' := by
  rcases a with ⟨a1, a2⟩ | ⟨a1, a2, a3, a4⟩ <;> rcases b with ⟨b1, b2⟩ | ⟨b1, b2, b3, b4⟩
  · omega
  · exact absurd b3 (a2 r' b1 b2)
  · exact absurd a3 (b2 r a1 a2)
  · rcases Int.lt_trichotomy r r' with z | z | z
    · exact absurd a3 (b4 r a1 z)
    · exact z
    · exact absurd b3 (a4 r' b1 z)
theorem s_firstWith_x {Q : Int → ml_St → Prop} {h : Int} {v cl : Int → Int} {a n s m : Nat} {g K : Int} {σ : ml_St} (H : mq_h h v cl) (p : mq_q h v cl a n σ) (n8 : n ≤ 8) (hr : mr h v cl a n s m g) (e7 : σ 46 7 = s) (e8 : σ 46 8 = g) (e9 : σ 46 9 = m + 1) (K0 : 0 ≤ K) (K1 : K ≤ 1000000000000000000) (k : ∀ r, mr_fst (mr_U h v cl a n) K r → Q r σ) : f_X6_firstWith σ K Q := by
  obtain ⟨h2, h5, hv, ov, hc, v0, v1⟩ := id H
  have hh := mr_H2 H p.1 n8 p.2.2.2.2.2.2.1 hr
  have s8 := hh.2.2.1
  have r6 := hr.2.2.2.2.2.1
  have r1 := hr.1
  have an := p.1
  have U := fun (j : Nat) (hj : j ≤ 2000) => mr_U_s (cl := cl) H p.1 p.2.2.2.2.2.2.1 (x := j) hj
  have L2 : ∀ (N : Nat) (i : Nat) (y : Int), i ≤ s → s - i < N → (∀ x, 1 ≤ x → x < (m : Int) + 1 → mr_U h v cl a n x ≠ K) → ((y = -1 ∧ ∀ x, (m : Int) + 1 ≤ x → x ≤ 1000000000000000000 → (x - (m + 1)) % s < i → mr_U h v cl a n x ≠ K) ∨ ((m : Int) + 1 ≤ y ∧ y ≤ 1000000000000000000 ∧ mr_U h v cl a n y = K ∧ ∀ x, (m : Int) + 1 ≤ x → x < y → (x - (m + 1)) % s < i → mr_U h v cl a n x ≠ K)) → f_X6_firstWith_u37 Q (f_X6_firstWith_u102 Q) N σ K y i := by
    intro N
    induction N with
    | zero => intro i y i1 hN; omega
    | succ N ih =>
      intro i y i1 hN lo hy
      unfold f_X6_firstWith_u37
      unfold f_X6_firstWith_u102 f_X6_firstWith_u93
      rw [e7, e9]
      refine fun _ => ⟨fun c => ?_, fun c _ => ⟨mt_i (by omega) (by omega), ?_⟩⟩
      · have : i = s := by omega
        subst this
        have m1 := fun x : Int => Int.emod_lt_of_pos (x - ((m : Int) + 1)) (show 0 < (i : Int) by omega)
        refine k y ?_
        rcases hy with ⟨y1, y2⟩ | ⟨y1, y2, y3, y4⟩
        · refine Or.inl ⟨y1, fun x x0 x1 => ?_⟩
          by_cases z : x < (m : Int) + 1
          · exact lo x x0 z
          · exact y2 x (by omega) x1 (m1 x)
        · refine Or.inr ⟨by omega, y2, y3, fun x x0 x1 => ?_⟩
          by_cases z : x < (m : Int) + 1
          · exact lo x x0 z
          · exact y4 x (by omega) x1 (m1 x)
      · have nx : ∀ y, ((y = -1 ∧ ∀ x, (m : Int) + 1 ≤ x → x ≤ 1000000000000000000 → (x - (m + 1)) % s < ((i + 1 : Nat) : Int) → mr_U h v cl a n x ≠ K) ∨ ((m : Int) + 1 ≤ y ∧ y ≤ 1000000000000000000 ∧ mr_U h v cl a n y = K ∧ ∀ x, (m : Int) + 1 ≤ x → x < y → (x - (m + 1)) % s < ((i + 1 : Nat) : Int) → mr_U h v cl a n x ≠ K)) → f_X6_firstWith_u96 Q (f_X6_firstWith_u37 Q (f_X6_firstWith_u102 Q) N) σ K y i := by
          intro y hy
          unfold f_X6_firstWith_u96
          refine ⟨mt_i (by omega) (by omega), fun y1 e1 => ?_⟩
          rw [e1, show (i : Int) + 1 = ((i + 1 : Nat) : Int) by omega]
          exact ih (i + 1) y (by omega) (by omega) lo hy
        have go := s_firstFrom_x (Q := fun r5 σ5 => ∀ _ : I64 r5, (r5 = (-1) → f_X6_firstWith_u96 Q (f_X6_firstWith_u37 Q (fun σ x3 => Q x3 σ) N) σ5 K y i) ∧ (r5 ≠ (-1) → (1000000000000000000 < r5 → f_X6_firstWith_u96 Q (f_X6_firstWith_u37 Q (fun σ x3 => Q x3 σ) N) σ5 K y i) ∧ (¬ (1000000000000000000 < r5) → (y = (-1) → f_X6_firstWith_u96 Q (f_X6_firstWith_u37 Q (fun σ x3 => Q x3 σ) N) σ5 K r5 i) ∧ (y ≠ (-1) → (y ≤ r5 → f_X6_firstWith_u96 Q (f_X6_firstWith_u37 Q (fun σ x3 => Q x3 σ) N) σ5 K y i) ∧ (¬ (y ≤ r5) → f_X6_firstWith_u96 Q (f_X6_firstWith_u37 Q (fun σ x3 => Q x3 σ) N) σ5 K r5 i))))) H p n8 hr e7 e8 (y := m + i) (by omega) (by omega) K0 K1
        rw [show ((m + i : Nat) : Int) + 1 = (m : Int) + 1 + i by omega] at go
        refine go (fun _ => ?_)
        have P := mr_ff_l (k := K) hh (show (m : Int) + 1 ≤ (m : Int) + 1 + i by omega)
        generalize mr_ff (mr_U h v cl a n) s g K ((m : Int) + 1 + i) = r at *
        have ch := fun x : Int => mr_in (B := (m : Int) + 1) (S := (s : Int)) (i := (i : Int)) (x := x) (by omega) s8 (by omega) (by omega)
        -- nothing new at this place or beyond
        have keep : (∀ x, (m : Int) + 1 ≤ x → x ≤ 1000000000000000000 → (x - (m + 1)) % s = i → mr_U h v cl a n x = K → y ≠ -1 ∧ y ≤ x) → f_X6_firstWith_u96 Q (f_X6_firstWith_u37 Q (f_X6_firstWith_u102 Q) N) σ K y i := fun hk => by
          refine nx y ?_
          rcases hy with ⟨y1, y2⟩ | ⟨y1, y2, y3, y4⟩
          · refine Or.inl ⟨y1, fun x x0 x1 x2 => ?_⟩
            by_cases z : (x - (m + 1)) % s = i
            · exact fun e => (hk x x0 x1 z e).1 y1
            · exact y2 x x0 x1 (by generalize (x - ((m : Int) + 1)) % s = q at *; omega)
          · refine Or.inr ⟨y1, y2, y3, fun x x0 x1 x2 => ?_⟩
            by_cases z : (x - (m + 1)) % s = i
            · exact fun e => absurd (hk x x0 (by omega) z e).2 (by omega)
            · exact y4 x x0 x1 (by generalize (x - ((m : Int) + 1)) % s = q at *; omega)
        have take : r ≠ -1 → r ≤ 1000000000000000000 → (y = -1 ∨ r < y) → f_X6_firstWith_u96 Q (f_X6_firstWith_u37 Q (f_X6_firstWith_u102 Q) N) σ K r i := fun q1 q2 q3 => by
          obtain ⟨p1, p2, p3, p4⟩ := P.resolve_left (fun w => q1 w.1)
          refine nx r (Or.inr ⟨by omega, q2, p3, fun x x0 x1 x2 => ?_⟩)
          by_cases z : (x - (m + 1)) % s = i
          · obtain ⟨c1, c2⟩ := (ch x).1 ⟨x0, z⟩
            exact fun e => absurd (p4 x c1 c2 e) (by omega)
          · have z2 : (x - (m + 1)) % s < (i : Int) := by generalize (x - ((m : Int) + 1)) % s = q at *; omega
            rcases hy with ⟨y1, y2⟩ | ⟨y1, y2, y3, y4⟩
            · exact y2 x x0 (by omega) z2
            · exact y4 x x0 (by omega) z2
        refine ⟨fun z => keep (fun x x0 x1 x2 e => ?_), fun z => ⟨fun z1 => keep (fun x x0 x1 x2 e => ?_), fun z1 => ⟨fun z2 => take z (by omega) (Or.inl z2), fun z2 => ⟨fun z3 => keep (fun x x0 x1 x2 e => ?_), fun z3 => take z (by omega) (Or.inr (by omega))⟩⟩⟩⟩
        · obtain ⟨c1, c2⟩ := (ch x).1 ⟨x0, x2⟩
          rcases P with ⟨p1, p2⟩ | ⟨p1, p2, p3, p4⟩
          · exact absurd e (p2 x c1 c2)
          · omega
        · obtain ⟨c1, c2⟩ := (ch x).1 ⟨x0, x2⟩
          rcases P with ⟨p1, p2⟩ | ⟨p1, p2, p3, p4⟩
          · exact absurd e (p2 x c1 c2)
          · have := p4 x c1 c2 e; omega
        · obtain ⟨c1, c2⟩ := (ch x).1 ⟨x0, x2⟩
          rcases P with ⟨p1, p2⟩ | ⟨p1, p2, p3, p4⟩
          · exact absurd e (p2 x c1 c2)
          · have := p4 x c1 c2 e; omega
  have L1 : ∀ (N : Nat) (j : Nat), j ≤ m → m - j < N → (∀ x, 1 ≤ x → x < (j : Int) + 1 → mr_U h v cl a n x ≠ K) → f_X6_firstWith_u2 Q (f_X6_firstWith_u21 Q) (f_X6_firstWith_u30 Q) N σ K (j + 1) := by
    intro N
    induction N with
    | zero => intro j j1 hN; omega
    | succ N ih =>
      intro j j1 hN lo
      unfold f_X6_firstWith_u2
      unfold f_X6_firstWith_u21 f_X6_firstWith_u30
      rw [e9]
      have l := mq_lv_s (cl := cl) H p.1 p.2.2.2.2.2.2.1 (x := j) (by omega)
      have u := U j (by omega)
      refine fun _ => ⟨fun _ => ⟨100, ?_⟩, fun c => s_loopsOf_x (by omega) h5 hv ov hc v0 v1 p (by omega) (by omega) (fun _ => ?_)⟩
      · have : j = m := by omega
        subst this
        refine L2 100 0 (-1) (by omega) (by omega) lo (Or.inl ⟨rfl, fun x x0 x1 x2 => ?_⟩)
        have m0 := Int.emod_nonneg (x - ((j : Int) + 1)) (show (s : Int) ≠ 0 by omega)
        generalize (x - ((j : Int) + 1)) % s = q at *; omega
      · rw [l, ← u]
        refine ⟨fun z => ⟨mt_i (by omega) (by omega), fun y e => ?_⟩, fun z => k _ (Or.inr ⟨by omega, by omega, z, fun x x0 x1 => lo x x0 (by omega)⟩)⟩
        rw [e, show (j : Int) + 1 = ((j + 1 : Nat) : Int) by omega]
        refine ih (j + 1) (by omega) (by omega) (fun x x0 x1 => ?_)
        by_cases q : x = (j : Int) + 1
        · subst q; exact z
        · exact lo x x0 (by omega)
  unfold f_X6_firstWith f_X6_firstWith_u0
  exact ⟨100, L1 100 0 (by omega) (by omega) (fun x x0 x1 => by omega)⟩
/-- the model: one residue -/
theorem mr_low_w {r fr S : Int} (r1 : 1 ≤ r) (rf : r < fr) (f9 : fr ≤ 1000000000000000000) (S1 : 1 ≤ S) (S8 : S ≤ 8) : w64 (r + w64 (w64 (Int.tdiv (w64 (w64 (w64 (fr - r) + S) - 1)) S) * S)) = mr_low r fr S := by
  unfold mr_low
  rw [if_neg (by omega)]
  have d0 := Int.ediv_nonneg (show 0 ≤ fr - r + S - 1 by omega) (show (0 : Int) ≤ S by omega)
  have d1 := Int.ediv_le_self (S : Int) (show 0 ≤ fr - r + S - 1 by omega)
  have d2 := Int.ediv_mul_le (fr - r + S - 1) (show (S : Int) ≠ 0 by omega)
  have d3 := Int.mul_nonneg d0 (show (0 : Int) ≤ S by omega)
  rw [w64_id (x := fr - r) ⟨by omega, by omega⟩, w64_id (x := fr - r + S) ⟨by omega, by omega⟩, w64_id (x := fr - r + S - 1) ⟨by omega, by omega⟩, Int.tdiv_eq_ediv_of_nonneg (by omega), w64_id (x := (fr - r + S - 1) / S) ⟨by omega, by omega⟩, w64_id (x := (fr - r + S - 1) / S * S) ⟨by omega, by omega⟩, w64_id ⟨by omega, by omega⟩]
set_option maxHeartbeats 4000000 in
theorem s_ofResidue_x {Q : Int → ml_St → Prop} {h : Int} {v cl : Int → Int} {a n i : Nat} {K fr to : Int} {τ : ml_St} (H : mq_h h v cl) (n8 : n ≤ 8) (pp : mq_p h v cl a n τ) (i1 : i < n - a) (K0 : 0 ≤ K) (K1 : K ≤ 1000000000000000000) (f1 : 1 ≤ fr) (ft : fr ≤ to) (t1 : to ≤ 1000000000000000000) (k : ∀ r y, r = mr_sm (mr_b (mr_U h v cl a n) (a + 1) (n - a) K i) fr (to - fr + 1).toNat → ((y = 0 ∧ ∀ x, fr ≤ x → x ≤ to → ((a : Int) + 1 ≤ x ∧ (x - (a + 1)) % (n - a) = i) → mr_U h v cl a n x ≠ K) ∨ (fr ≤ y ∧ y ≤ to ∧ mr_U h v cl a n y = K ∧ ∀ x, fr ≤ x → x < y → ((a : Int) + 1 ≤ x ∧ (x - (a + 1)) % (n - a) = i) → mr_U h v cl a n x ≠ K)) → Q r (ml_up τ 215 36 y)) : f_X12_ofResidue τ ((a : Int) + 1 + i) K fr to Q := by
  obtain ⟨h2, h5, hv, ov, hc, v0, v1⟩ := id H
  obtain ⟨q1, q2, q3, q4, q5, q6, q7, q8, q9⟩ := pp
  have R := fun j (hj : j ≤ 2000) => mt_plo_r (n := j) (by omega) h5 hv hc v0 v1 hj
  have ra := R a (by omega)
  have rn := R n (by omega)
  have ri := R (a + i) (by omega)
  have li := q7 (a + i) (by omega)
  have u := mr_U_s (cl := cl) H q1 q8 (x := a + i) (by omega)
  rw [w64_id ⟨by omega, by omega⟩] at q6
  have hh := mr_H1 H q1 n8 q8
  have g0 := hh.2.2.2.1
  have P := mr_ff_p (k := K) hh (show (a : Int) + 1 ≤ (a : Int) + 1 + i by omega)
  have ch := fun x : Int => mr_in (B := (a : Int) + 1) (S := (n : Int) - a) (i := (i : Int)) (x := x) (by omega) (by omega) (by omega) (by omega)
  rw [show ((a + i : Nat) : Int) + 1 = (a : Int) + 1 + i by omega] at li u
  have hm := mr_hm (k := K) (i := (i : Int)) (fr := fr) (to := to) hh (by omega) (by omega) ft f1
  generalize mr_sm (mr_b (mr_U h v cl a n) (a + 1) (n - a) K i) fr (to - fr + 1).toNat = SM at *
  have hm := fun (_ : Unit) => hm
  unfold f_X12_ofResidue f_X12_ofResidue_u0
  intro σ1 s1
  have e33 : σ1 215 33 = n - a := by rw [s1, ml_up_i (by omega), q4]
  have e35 : σ1 215 35 = mt_plo h v cl n - mt_plo h v cl a := by rw [s1, ml_up_i (by omega), q6]
  have e236 : σ1 236 ((a : Int) + 1 + i) = mt_plo h v cl (a + i) := by rw [s1, ml_up_k (by omega), li]
  have up : ∀ y, ml_up σ1 215 36 y = ml_up τ 215 36 y := fun y => by
    rw [s1]; funext j b
    by_cases q : j = 215
    · subst q
      by_cases q2 : b = 36
      · subst q2; rw [ml_up_same, ml_up_same]
      · rw [ml_up_i q2, ml_up_i q2, ml_up_i q2]
    · rw [ml_up_k q, ml_up_k q, ml_up_k q]
  rw [e33, e35, e236]
  unfold f_X12_ofResidue_u129 f_X12_ofResidue_u171
  have F : ∀ n', n' = mr_ff (mr_U h v cl a n) ((n : Int) - a) (mt_plo h v cl n - mt_plo h v cl a) K ((a : Int) + 1 + i) → n' = (if K - mt_plo h v cl (a + i) = 0 then (a : Int) + 1 + i else if K - mt_plo h v cl (a + i) < 0 ∨ mt_plo h v cl n - mt_plo h v cl a ≤ 0 ∨ (K - mt_plo h v cl (a + i)) % (mt_plo h v cl n - mt_plo h v cl a) ≠ 0 then -1 else (a : Int) + 1 + i + (K - mt_plo h v cl (a + i)) / (mt_plo h v cl n - mt_plo h v cl a) * (n - a)) := fun n' e => by
    rw [e]; unfold mr_ff; rw [u]
  have F := fun (_ : Unit) => F _ rfl
  generalize mr_ff (mr_U h v cl a n) ((n : Int) - a) (mt_plo h v cl n - mt_plo h v cl a) K ((a : Int) + 1 + i) = r at *
  have w0 : w64 (K - mt_plo h v cl (a + i)) = K - mt_plo h v cl (a + i) := w64_id ⟨by omega, by omega⟩
  rw [w0]
  have none : (∀ x, (a : Int) + 1 + i ≤ x → (x - ((a : Int) + 1 + i)) % ((n : Int) - a) = 0 → fr ≤ x → x ≤ to → mr_U h v cl a n x ≠ K) → (r = -1 ∨ to < r ∨ (0 < mt_plo h v cl n - mt_plo h v cl a ∧ r < fr) ∨ (mt_plo h v cl n - mt_plo h v cl a ≤ 0 ∧ to < mr_low r fr ((n : Int) - a))) → Q 0 σ1 := fun hn hz => by
    have e := k 0 0 ?_ (Or.inl ⟨rfl, fun x x0 x1 x2 => ?_⟩)
    · rw [s1]; exact e
    · rw [hm ()]
      rcases hz with z | z | z | z
      · rw [if_pos (Or.inl z)]
      · rw [if_pos (Or.inr z)]
      · by_cases y : r = -1 ∨ to < r
        · rw [if_pos y]
        · rw [if_neg y, if_pos z.1, if_neg (by omega)]
      · by_cases y : r = -1 ∨ to < r
        · rw [if_pos y]
        · rw [if_neg y, if_neg (by omega), if_pos z.2]
    · obtain ⟨c1, c2⟩ := (ch x).1 x2
      exact hn x c1 c2 x0 x1
  generalize hG : mt_plo h v cl n - mt_plo h v cl a = G at *
  generalize hd : K - mt_plo h v cl (a + i) = d at *
  -- no place at all
  have nm : r = -1 → ∀ x, (a : Int) + 1 + i ≤ x → (x - ((a : Int) + 1 + i)) % ((n : Int) - a) = 0 → mr_U h v cl a n x ≠ K := fun e => by
    rcases P with ⟨p1, p2⟩ | ⟨p1, p2⟩
    · exact p2
    · omega
  have n1 : r = -1 → Q 0 σ1 := fun e => none (fun x x0 x1 _ _ => nm e x x0 x1) (Or.inl e)
  -- one place
  have on : 0 < G → r ≠ -1 → (to < r ∨ r < fr) → Q 0 σ1 := fun g1 r1 rr => by
    obtain ⟨p1, p2, p3, p4, p5⟩ := P.resolve_left (fun w => r1 w.1)
    refine none (fun x x0 x1 x2 x3 e => ?_) (by omega)
    have := p4 g1 x x0 x1 e
    omega
  have u68 : ∀ low, low = mr_low r fr ((n : Int) - a) → r = (a : Int) + 1 + i → G = 0 → f_X12_ofResidue_u68 Q σ1 to low := fun low el er eg => by
    obtain ⟨l1, l2, l3, l4⟩ := mr_low_p (n := r) (fr := fr) (S := (n : Int) - a) (by omega) (by omega)
    obtain ⟨p1, p2, p3, p4, p5⟩ := P.resolve_left (fun w => by omega)
    have p5 := (p5 (by omega)).2
    rw [← el] at l1 l2 l3 l4
    unfold f_X12_ofResidue_u68
    refine ⟨fun z σ2 s2 _ => ?_, fun z => ?_⟩
    · have z33 : σ2 215 33 = n - a := by rw [s2, ml_up_i (by omega), e33]
      have d0 := Int.ediv_nonneg (show 0 ≤ to - low by omega) (show (0 : Int) ≤ (n : Int) - a by omega)
      have d1 := Int.ediv_le_self ((n : Int) - a) (show 0 ≤ to - low by omega)
      rw [z33, w64_id (x := to - low) ⟨by omega, by omega⟩, Int.tdiv_eq_ediv_of_nonneg (by omega), w64_id (x := (to - low) / ((n : Int) - a)) ⟨by omega, by omega⟩, w64_id ⟨by omega, by omega⟩, s2, up low]
      refine ⟨by omega, k _ low ?_ (Or.inr ⟨l2, z, p5 low (by omega) (by rw [← er]; exact l3), fun x x0 x1 x2 => ?_⟩)⟩
      · rw [hm (), if_neg (by omega), if_neg (by omega), ← el, if_neg (by omega)]
      · obtain ⟨c1, c2⟩ := (ch x).1 x2
        have := ((l4 x x0).1 (by rw [er]; exact ⟨c1, c2⟩)).1
        omega
    · refine none (fun x x0 x1 x2 x3 e => ?_) (Or.inr (Or.inr (Or.inr ⟨by omega, by rw [← el]; omega⟩)))
      have := ((l4 x x2).1 (by rw [er]; exact ⟨x0, x1⟩)).1
      omega
  refine fun _ => ⟨fun c => ⟨by omega, by omega, fun _ => ⟨fun z => n1 ?_, fun z => ⟨by omega, by omega, fun _ _ => ⟨c, fun z2 => ⟨by omega, by omega, fun _ _ => ⟨c, fun y15 e15 _ => ?_⟩⟩, fun z2 => n1 ?_⟩⟩⟩⟩, fun c => ⟨by omega, by omega, fun _ => ⟨fun z => ⟨fun z2 _ _ => ⟨by omega, fun _ => u68 _ ?_ ?_ c⟩, fun z2 => u68 _ ?_ ?_ c⟩, fun z => n1 ?_⟩⟩⟩
  · rw [F (), if_neg (by omega), if_pos (Or.inl (by omega))]
  · rw [Int.tmod_eq_emod_of_nonneg (by omega)] at z2
    have q0 := Int.ediv_nonneg (show 0 ≤ d by omega) (show 0 ≤ G by omega)
    have q1' := Int.ediv_le_self G (show 0 ≤ d by omega)
    rw [Int.tdiv_eq_ediv_of_nonneg (by omega), w64_id ⟨by omega, by omega⟩] at e15
    rw [← e15] at q0 q1'
    have er : r = (a : Int) + 1 + i + y15 * (n - a) := by
      rw [F ()]
      by_cases y : d = 0
      · rw [if_pos y]
        have : y15 = 0 := by omega
        rw [this, Int.zero_mul]; omega
      · rw [if_neg y, if_neg (by omega), e15]
    have q2 := Int.mul_nonneg q0 (show (0 : Int) ≤ (n : Int) - a by omega)
    have q3 := Int.mul_le_mul_of_nonneg_left (show (n : Int) - a ≤ 8 by omega) q0
    have rn1 : r ≠ -1 := by omega
    have w2 : w64 (to - ((a : Int) + 1 + i)) = to - ((a : Int) + 1 + i) := w64_id ⟨by omega, by omega⟩
    rw [w2]
    refine ⟨by omega, fun z3 => ?_, fun z3 => ⟨fun z4 _ y24 e24 => ?_, fun z4 => on (by omega) rn1 (Or.inl (by omega))⟩⟩
    · refine on (by omega) rn1 (Or.inl ?_)
      by_cases y : (a : Int) + 1 + i ≤ to
      · have d1 := Int.ediv_le_self ((n : Int) - a) (show 0 ≤ to - ((a : Int) + 1 + i) by omega)
        have d0 := Int.ediv_nonneg (show 0 ≤ to - ((a : Int) + 1 + i) by omega) (show (0 : Int) ≤ (n : Int) - a by omega)
        rw [Int.tdiv_eq_ediv_of_nonneg (by omega), w64_id ⟨by omega, by omega⟩] at z3
        have := (Int.ediv_lt_iff_lt_mul (show 0 < (n : Int) - a by omega)).1 z3
        omega
      · omega
    · have d1 := Int.ediv_le_self ((n : Int) - a) (show 0 ≤ to - ((a : Int) + 1 + i) by omega)
      have d0 := Int.ediv_nonneg (show 0 ≤ to - ((a : Int) + 1 + i) by omega) (show (0 : Int) ≤ (n : Int) - a by omega)
      rw [Int.tdiv_eq_ediv_of_nonneg (by omega), w64_id ⟨by omega, by omega⟩] at z3
      have rt : r ≤ to := by
        rcases Int.lt_or_le to r with w | w
        · exact absurd ((Int.ediv_lt_iff_lt_mul (show 0 < (n : Int) - a by omega)).2 (by omega)) z3
        · exact w
      rw [w64_id (x := y15 * ((n : Int) - a)) ⟨by omega, by omega⟩, w64_id ⟨by omega, by omega⟩, ← er] at e24
      subst e24
      refine ⟨fun z5 σ26 s26 => ?_, fun z5 => on (by omega) rn1 (Or.inr (by omega))⟩
      obtain ⟨p1, p2, p3, p4, p5⟩ := P.resolve_left (fun w => rn1 w.1)
      rw [s26, up]
      refine k 1 y24 ?_ (Or.inr ⟨z5, rt, p3, fun x x0 x1 x2 e => ?_⟩)
      · rw [hm (), if_neg (by omega), if_pos (by omega), if_pos z5]
      · obtain ⟨c1, c2⟩ := (ch x).1 x2
        have := p4 (by omega) x c1 c2 e
        omega
  · rw [Int.tmod_eq_emod_of_nonneg (by omega)] at z2
    rw [F ()]
    by_cases y : d = 0
    · rw [y, Int.zero_emod] at z2; exact absurd rfl z2
    · rw [if_neg y, if_pos (Or.inr (Or.inr z2))]
  · have er : r = (a : Int) + 1 + i := by rw [F (), if_pos (by omega)]
    rw [er]
    exact mr_low_w (by omega) z2 (by omega) (by omega) (by omega)
  · rw [F (), if_pos (by omega)]
  · have er : r = (a : Int) + 1 + i := by rw [F (), if_pos (by omega)]
    rw [er]; unfold mr_low; rw [if_pos (by omega)]
  · rw [F (), if_pos (by omega)]
  · rw [F (), if_neg (by omega), if_pos (by omega)]
/-! those and first, of the model and of the class -/
/-- the least of a stretch, among those that are marked -/
def mr_fm (f : Int → Int) (K fr to y : Int) (A : Int → Prop) : Prop := (y = 0 ∧ ∀ x, fr ≤ x → x ≤ to → A x → f x ≠ K) ∨ (fr ≤ y ∧ y ≤ to ∧ f y = K ∧ ∀ x, fr ≤ x → x < y → A x → f x ≠ K)
theorem m_thoseOf_x {Q : Int → ml_St → Prop} {h told ts cap w K fr to : Int} {tb cl pr sz : Int → Int} {T : Int → Int → Int} {τ : ml_St} (i : IM h told ts cap tb cl pr sz T τ) (q : mt_md told (mt_mk h T sz) w) (K0 : 0 ≤ K) (K1 : K ≤ 1000000000000000000) (f1 : 1 ≤ fr) (ft : fr ≤ to) (t1 : to ≤ 1000000000000000000) (k : ∀ σ (a n : Nat) (y : Int), IM h told ts cap tb cl pr sz T σ → (∀ j, j < 215 → σ j = τ j) → mq_p h (mt_mk h T sz w) cl a n σ → mr_fm (mr_U h (mt_mk h T sz w) cl a n) K fr to y (fun _ => True) → σ 215 37 = y → Q (mr_sm (mr_t (mr_U h (mt_mk h T sz w) cl a n) K) fr (to - fr + 1).toNat) σ) : f_X12_thoseOf τ w K fr to Q := by
  have h2 := i.1.2.2.1
  have h5 := i.1.2.2.2.1
  obtain ⟨g1, hv, ov, g4, g5⟩ := IM_w i q
  have hc := i.2.2.1.2.2.2
  obtain ⟨v0, v1⟩ := mq_20 (IM_cv i q.1 q.2.1).1 q.2.2
  unfold f_X12_thoseOf f_X12_thoseOf_u0
  refine m_powers i q (fun σ a n i' j' p σ2 s2 => ⟨1000, ?_⟩)
  have k := fun σ y => k σ a n y
  clear g1 g4 g5 q
  generalize mt_mk h T sz w = v at *
  have H : mq_h h v cl := ⟨h2, h5, hv, ov, hc, v0, v1⟩
  have n8 : n ≤ 8 := mq_8 h2 h5 hv p.2.2.2.2.2.2.2.2
  have E : (((to - fr + 1).toNat : Nat) : Int) = to - fr + 1 := by omega
  have an := p.1
  have en := p.2.2.2.2.2.2.2.1
  have pk : ∀ σ', (∀ b, b ≠ 36 → b ≠ 37 → σ' 215 b = σ 215 b) → σ' 236 = σ 236 → mq_p h v cl a n σ' := fun σ' b e => by
    unfold mq_p at *
    rw [b 32 (by omega) (by omega), b 33 (by omega) (by omega), b 34 (by omega) (by omega), b 35 (by omega) (by omega), e]; exact p
  have L2 : ∀ (N : Nat) (j : Nat) (σ' : ml_St), j ≤ n - a → n - a - j < N → (∀ j, j ≠ 215 → σ' j = σ j) → (∀ b, b ≠ 36 → b ≠ 37 → σ' 215 b = σ 215 b) → mr_fm (mr_U h v cl a n) K fr to (σ' 215 37) (fun x => x < (a : Int) + 1 ∨ (x - (a + 1)) % (n - a) < j) → f_X12_thoseOf_u99 Q (f_X12_thoseOf_u173 Q) N σ' K fr to (mr_sm (mr_c (mr_U h v cl a n) (a + 1) (n - a) K j) fr (to - fr + 1).toNat) ((a : Int) + 1 + j) := by
    intro N
    induction N with
    | zero => intro j σ' j0 hN; omega
    | succ N ih =>
      intro j σ' j1 hN f b hy
      have p' := pk σ' b (f 236 (by omega))
      unfold f_X12_thoseOf_u99
      rw [p'.2.2.1, p'.2.2.2.1]
      have m1 := fun x : Int => Int.emod_lt_of_pos (x - ((a : Int) + 1)) (show 0 < (n : Int) - a by omega)
      refine fun _ _ => ⟨mt_I (by omega) (by omega), fun c => ?_, fun c => ?_⟩
      · have ej : j = n - a := by omega
        subst ej
        unfold f_X12_thoseOf_u173
        rw [show ((n - a : Nat) : Int) = (n : Int) - a by omega, mr_sm_c _ (fun x _ _ => mr_c_S (mr_U h v cl a n) (a + 1) (n - a) K x (by omega))]
        refine k σ' (σ' 215 37) (mq_37 i' f b) (fun j hj => by rw [f j (by omega), j' j hj]) p' ?_ rfl
        rcases hy with ⟨y1, y2⟩ | ⟨y1, y2, y3, y4⟩
        · exact Or.inl ⟨y1, fun x x0 x1 _ => y2 x x0 x1 (Or.inr (by have := m1 x; generalize (x - ((a : Int) + 1)) % ((n : Int) - a) = r at *; omega))⟩
        · exact Or.inr ⟨y1, y2, y3, fun x x0 x1 _ => y4 x x0 x1 (Or.inr (by have := m1 x; generalize (x - ((a : Int) + 1)) % ((n : Int) - a) = r at *; omega))⟩
      · refine s_ofResidue_x H n8 p' (by omega) K0 K1 f1 ft t1 (fun r y er hr _ y7 e7 => ?_)
        have ea := mr_sm_a (b := mr_c (mr_U h v cl a n) (a + 1) (n - a) K (j + 1)) (c := mr_c (mr_U h v cl a n) (a + 1) (n - a) K j) (d := mr_b (mr_U h v cl a n) (a + 1) (n - a) K j) (lo := fr) (to - fr + 1).toNat (fun x _ _ => mr_c_s _ _ _ _ _ _ (by omega) (by omega))
        have q := mr_sm_r (b := mr_c (mr_U h v cl a n) (a + 1) (n - a) K (j + 1)) (lo := fr) (to - fr + 1).toNat (fun x _ _ => by unfold mr_c; split <;> omega)
        rw [er, ← ea, w64_id ⟨by omega, by omega⟩] at e7
        have nx : ∀ σ3, (∀ j, j ≠ 215 → σ3 j = σ' j) → (∀ b, b ≠ 36 → b ≠ 37 → σ3 215 b = σ' 215 b) → mr_fm (mr_U h v cl a n) K fr to (σ3 215 37) (fun x => x < (a : Int) + 1 ∨ (x - (a + 1)) % (n - a) < ((j + 1 : Nat) : Int)) → f_X12_thoseOf_u167 Q (f_X12_thoseOf_u99 Q (f_X12_thoseOf_u173 Q) N) σ3 K fr to y7 ((a : Int) + 1 + j) := fun σ3 f3 b3 hy3 => by
          unfold f_X12_thoseOf_u167
          refine ⟨mt_I (by omega) (by omega), fun y1 e1 => ?_⟩
          rw [e1, e7, show (a : Int) + 1 + j + 1 = (a : Int) + 1 + ((j + 1 : Nat) : Int) by omega, show (j : Int) + 1 = ((j + 1 : Nat) : Int) by omega]
          exact ih (j + 1) σ3 (by omega) (by omega) (fun j hj => by rw [f3 j hj, f j hj]) (fun c h1 h2 => by rw [b3 c h1 h2, b c h1 h2]) hy3
        have e36 : ml_up σ' 215 36 y 215 36 = y := ml_up_same _ _ _ _
        have e37 : ml_up σ' 215 36 y 215 37 = σ' 215 37 := ml_up_i (by omega)
        -- what is marked next
        have mk : ∀ x, (x < (a : Int) + 1 ∨ (x - (a + 1)) % (n - a) < ((j + 1 : Nat) : Int)) → (x < (a : Int) + 1 ∨ (x - (a + 1)) % (n - a) < j) ∨ ((a : Int) + 1 ≤ x ∧ (x - (a + 1)) % (n - a) = j) := fun x hx => by
          generalize (x - ((a : Int) + 1)) % ((n : Int) - a) = r at *; omega
        have keep : (y = 0 ∨ (σ' 215 37 ≠ 0 ∧ σ' 215 37 ≤ y)) → f_X12_thoseOf_u167 Q (f_X12_thoseOf_u99 Q (f_X12_thoseOf_u173 Q) N) (ml_up σ' 215 36 y) K fr to y7 ((a : Int) + 1 + j) := fun hk => by
          refine nx _ (fun j hj => ml_up_k hj) (fun b h1 _ => ml_up_i h1) ?_
          rw [e37]
          rcases hy with ⟨y1, y2⟩ | ⟨y1, y2, y3, y4⟩
          · refine Or.inl ⟨y1, fun x x0 x1 hx => ?_⟩
            rcases mk x hx with z | z
            · exact y2 x x0 x1 z
            · rcases hr with ⟨r1, r2⟩ | ⟨r1, r2, r3, r4⟩
              · exact r2 x x0 x1 z
              · omega
          · refine Or.inr ⟨y1, y2, y3, fun x x0 x1 hx => ?_⟩
            rcases mk x hx with z | z
            · exact y4 x x0 x1 z
            · rcases hr with ⟨r1, r2⟩ | ⟨r1, r2, r3, r4⟩
              · exact r2 x x0 (by omega) z
              · exact r4 x x0 (by omega) z
        have take : y ≠ 0 → (σ' 215 37 = 0 ∨ y < σ' 215 37) → f_X12_thoseOf_u159 Q (f_X12_thoseOf_u99 Q (f_X12_thoseOf_u173 Q) N) (ml_up σ' 215 36 y) K fr to y7 ((a : Int) + 1 + j) := fun h0 h1 => by
          unfold f_X12_thoseOf_u159
          rw [e36]
          intro _ σ2 s2
          refine nx σ2 (fun j hj => by rw [s2, ml_up_k hj, ml_up_k hj]) (fun b h1 h2 => by rw [s2, ml_up_i h2, ml_up_i h1]) ?_
          obtain ⟨r1, r2, r3, r4⟩ := hr.resolve_left (fun w => h0 w.1)
          rw [s2, ml_up_same]
          refine Or.inr ⟨r1, r2, r3, fun x x0 x1 hx => ?_⟩
          rcases mk x hx with z | z
          · rcases hy with ⟨y1, y2⟩ | ⟨y1, y2, y3, y4⟩
            · exact y2 x x0 (by omega) z
            · exact y4 x x0 (by omega) z
          · exact r4 x x0 x1 z
        have y0 : 0 ≤ y := by rcases hr with ⟨r1, -⟩ | ⟨r1, -⟩ <;> omega
        have y37 : 0 ≤ σ' 215 37 := by rcases hy with ⟨r1, -⟩ | ⟨r1, -⟩ <;> omega
        rw [e36, e37]
        exact fun _ => ⟨fun z => keep (Or.inl (by omega)), fun z _ => ⟨fun z1 => take (by omega) (Or.inl z1), fun z1 _ _ => ⟨fun z2 => keep (Or.inr ⟨z1, z2⟩), fun z2 => take (by omega) (Or.inr (by omega))⟩⟩⟩
  have L1 : ∀ (N : Nat) (j : Nat) (σ' : ml_St), j ≤ a → a - j < N → (∀ j, j ≠ 215 → σ' j = σ j) → (∀ b, b ≠ 36 → b ≠ 37 → σ' 215 b = σ 215 b) → mr_fm (mr_U h v cl a n) K fr to (σ' 215 37) (fun x => x < (j : Int) + 1) → (σ' 215 37 ≠ 0 → σ' 215 37 < (j : Int) + 1) → f_X12_thoseOf_u16 Q (f_X12_thoseOf_u93 Q) N σ' K fr to (mr_sm (mr_d (mr_U h v cl a n) K (j + 1)) fr (to - fr + 1).toNat) ((j : Int) + 1) := by
    intro N
    induction N with
    | zero => intro j σ' j0 hN; omega
    | succ N ih =>
      intro j σ' j1 hN f b hy hl
      have p' := pk σ' b (f 236 (by omega))
      unfold f_X12_thoseOf_u16
      rw [p'.2.2.1]
      refine fun _ => ⟨fun c => ?_, fun c => ⟨by omega, by omega, fun _ => ?_⟩⟩
      · have ej : j = a := by omega
        subst ej
        unfold f_X12_thoseOf_u93
        rw [p'.2.2.1]
        refine fun _ y2 e => ⟨1000, ?_⟩
        rw [e, mr_sm_c _ (fun x _ _ => (mr_c_0 (mr_U h v cl j n) (j + 1) (n - j) K x (by omega)).symm)]
        have := L2 1000 0 σ' (by omega) (by omega) f b (by
          have m0 := fun x : Int => Int.emod_nonneg (x - ((j : Int) + 1)) (show (n : Int) - j ≠ 0 by omega)
          rcases hy with ⟨y1, y2⟩ | ⟨y1, y2, y3, y4⟩
          · exact Or.inl ⟨y1, fun x x0 x1 hx => y2 x x0 x1 (hx.resolve_right (by have := m0 x; generalize (x - ((j : Int) + 1)) % ((n : Int) - j) = r at *; omega))⟩
          · exact Or.inr ⟨y1, y2, y3, fun x x0 x1 hx => y4 x x0 x1 (hx.resolve_right (by have := m0 x; generalize (x - ((j : Int) + 1)) % ((n : Int) - j) = r at *; omega))⟩)
        rw [show (j : Int) + 1 + ((0 : Nat) : Int) = (j : Int) + 1 by omega] at this
        exact this
      · have u := mr_U_s (cl := cl) H an en (x := j) (by omega)
        have ea := mr_sm_a (b := mr_d (mr_U h v cl a n) K (j + 1 + 1)) (c := mr_d (mr_U h v cl a n) K (j + 1)) (d := fun x => if x = (j : Int) + 1 ∧ mr_U h v cl a n ((j : Int) + 1) = K then 1 else 0) (lo := fr) (to - fr + 1).toNat (fun x _ _ => mr_d_s _ _ _ _)
        have q := mr_sm_r (b := mr_d (mr_U h v cl a n) K (j + 1 + 1)) (lo := fr) (to - fr + 1).toNat (fun x _ _ => by unfold mr_d; split <;> omega)
        have l := p'.2.2.2.2.2.2.1 j (by omega)
        rw [l, ← u]
        have nx : ∀ σ3 y, y = mr_sm (mr_d (mr_U h v cl a n) K (j + 1 + 1)) fr (to - fr + 1).toNat → (∀ j, j ≠ 215 → σ3 j = σ' j) → (∀ b, b ≠ 36 → b ≠ 37 → σ3 215 b = σ' 215 b) → mr_fm (mr_U h v cl a n) K fr to (σ3 215 37) (fun x => x < (j : Int) + 1 + 1) → (σ3 215 37 ≠ 0 → σ3 215 37 < (j : Int) + 1 + 1) → f_X12_thoseOf_u87 Q (f_X12_thoseOf_u16 Q (f_X12_thoseOf_u93 Q) N) σ3 K fr to y ((j : Int) + 1) := fun σ3 y e f3 b3 hy3 hl3 => by
          unfold f_X12_thoseOf_u87
          refine ⟨mt_I (by omega) (by omega), fun y1 e1 => ?_⟩
          rw [e1, e, show (j : Int) + 1 = ((j + 1 : Nat) : Int) by omega]
          exact ih (j + 1) σ3 (by omega) (by omega) (fun j hj => by rw [f3 j hj, f j hj]) (fun c h1 h2 => by rw [b3 c h1 h2, b c h1 h2]) (by rw [show ((j + 1 : Nat) : Int) + 1 = (j : Int) + 1 + 1 by omega]; exact hy3) (fun z => by have := hl3 z; omega)
        -- nothing at this place
        have skip : ¬ (mr_U h v cl a n ((j : Int) + 1) = K ∧ fr ≤ (j : Int) + 1 ∧ (j : Int) + 1 ≤ to) → f_X12_thoseOf_u87 Q (f_X12_thoseOf_u16 Q (f_X12_thoseOf_u93 Q) N) σ' K fr to (mr_sm (mr_d (mr_U h v cl a n) K (j + 1)) fr (to - fr + 1).toNat) ((j : Int) + 1) := fun hz => by
          refine nx σ' _ ?_ (fun _ _ => rfl) (fun _ _ _ => rfl) ?_ (fun z => by have := hl z; omega)
          · rw [ea, mr_sm_0 (b := fun x => if x = (j : Int) + 1 ∧ mr_U h v cl a n ((j : Int) + 1) = K then 1 else 0) _ (fun x x0 x1 => if_neg (fun y => hz ⟨y.2, by omega, by omega⟩))]; omega
          · rcases hy with ⟨y1, y2⟩ | ⟨y1, y2, y3, y4⟩
            · refine Or.inl ⟨y1, fun x x0 x1 hx => ?_⟩
              by_cases z : x = (j : Int) + 1
              · subst z; exact fun e => hz ⟨e, x0, x1⟩
              · exact y2 x x0 x1 (by omega)
            · refine Or.inr ⟨y1, y2, y3, fun x x0 x1 hx => ?_⟩
              by_cases z : x = (j : Int) + 1
              · subst z; exact fun e => hz ⟨e, x0, by omega⟩
              · exact y4 x x0 x1 (by omega)
        refine ⟨fun z => skip (fun y => z y.1), fun z => ⟨fun z1 => skip (fun y => by omega), fun z1 => ⟨fun z2 y8 e8 _ => ?_, fun z2 => skip (fun y => by omega)⟩⟩⟩
        have one := mr_sm_1 (b := fun x => if x = (j : Int) + 1 ∧ mr_U h v cl a n ((j : Int) + 1) = K then 1 else 0) (lo := fr) (x0 := (j : Int) + 1) (to - fr + 1).toNat (fun x _ _ => by
          by_cases q : x = (j : Int) + 1
          · rw [if_pos ⟨q, z⟩, if_pos q]
          · rw [if_neg (fun y => q y.1), if_neg q])
        rw [if_pos (by omega)] at one
        rw [ea, one] at q
        have e8' : y8 = mr_sm (mr_d (mr_U h v cl a n) K (j + 1 + 1)) fr (to - fr + 1).toNat := by
          rw [e8, ea, one]; exact w64_id ⟨by omega, by omega⟩
        have U : ∀ s, ((σ' 215 37 ≠ 0 ∧ s = σ' 215 37) ∨ (σ' 215 37 = 0 ∧ s = (j : Int) + 1)) → f_X12_thoseOf_u84 Q (f_X12_thoseOf_u16 Q (f_X12_thoseOf_u93 Q) N) σ' K fr to y8 ((j : Int) + 1) s := fun s hs => by
          unfold f_X12_thoseOf_u84
          intro σ1 s1
          have e37 : σ1 215 37 = s := by rw [s1, ml_up_same]
          refine nx σ1 y8 e8' (fun j hj => by rw [s1, ml_up_k hj]) (fun b h1 h2 => by rw [s1, ml_up_i h2]) ?_ ?_
          · rw [e37]
            rcases hs with ⟨s1, s2⟩ | ⟨s1, s2⟩
            · obtain ⟨y1, y2, y3, y4⟩ := hy.resolve_left (fun w => s1 w.1)
              have := hl s1
              rw [s2]
              exact Or.inr ⟨y1, y2, y3, fun x x0 x1 hx => y4 x x0 x1 (by omega)⟩
            · rw [s2]
              refine Or.inr ⟨by omega, z2, z, fun x x0 x1 hx => ?_⟩
              rcases hy with ⟨y1, y2⟩ | ⟨y1, y2, y3, y4⟩
              · exact y2 x x0 (by omega) x1
              · omega
          · rw [e37]
            rcases hs with ⟨s1, s2⟩ | ⟨s1, s2⟩
            · have := hl s1; omega
            · omega
        exact ⟨fun y _ => U _ (Or.inl ⟨y, rfl⟩), fun y => U _ (Or.inr ⟨y, rfl⟩)⟩
  have e37 : σ2 215 37 = 0 := by rw [s2, ml_up_same]
  have := L1 1000 0 σ2 (by omega) (by omega) (fun j hj => by rw [s2, ml_up_k hj]) (fun b _ h2 => by rw [s2, ml_up_i h2]) (Or.inl ⟨e37, fun x x0 x1 hx => by omega⟩) (fun z => absurd e37 z)
  rw [mr_sm_0 (b := mr_d (mr_U h v cl a n) K ((0 : Nat) + 1)) _ (fun x x0 _ => by unfold mr_d; exact if_neg (fun y => by omega))] at this
  exact this
def mr_tc (told : Int) (mk : Int → Int → Int) (w K fr to : Int) : Prop := mt_md told mk w ∧ 0 ≤ K ∧ K ≤ 1000000000000000000 ∧ 1 ≤ fr ∧ fr ≤ to ∧ to ≤ 1000000000000000000
theorem m_those_x {Q : Int → ml_St → Prop} {h told ts cap w K fr to : Int} {tb cl pr sz : Int → Int} {T : Int → Int → Int} {τ : ml_St} (i : IM h told ts cap tb cl pr sz T τ) (k1 : mr_tc told (mt_mk h T sz) w K fr to → ∀ σ (a n : Nat), IM h told ts cap tb cl pr sz T σ → (∀ j, j < 215 → σ j = τ j) → mq_p h (mt_mk h T sz w) cl a n σ → Q (mr_sm (mr_t (mr_U h (mt_mk h T sz w) cl a n) K) fr (to - fr + 1).toNat) σ) (k0 : ¬ mr_tc told (mt_mk h T sz) w K fr to → Q (-1) τ) : f_X12_those τ w K fr to Q := by
  unfold f_X12_those f_X12_those_u0
  unfold f_X12_those_u52 f_X12_those_u55
  exact m_isMade i (fun q _ => ⟨fun z => absurd z (by omega), fun _ => s_isLoops12 (fun K0 K1 _ => ⟨fun z => absurd z (by omega), fun _ => s_isPower12 (fun f0 f1 _ => ⟨fun z => absurd z (by omega), fun _ => s_isPower12 (fun t0 t1 _ => ⟨fun z => absurd z (by omega), fun _ => ⟨fun z => k0 (fun y => by have := y.2.2.2.2.1; omega), fun z => m_thoseOf_x i q K0 K1 f0 (by omega) t1 (fun σ a n y i' j' p _ _ _ => k1 ⟨q, K0, K1, f0, by omega, t1⟩ σ a n i' j' p)⟩⟩) (fun z _ => ⟨fun _ => k0 (fun y => z ⟨by have := y.2.2.2.1; have := y.2.2.2.2.1; omega, y.2.2.2.2.2⟩), fun z => absurd rfl z⟩)⟩) (fun z _ => ⟨fun _ => k0 (fun y => z ⟨y.2.2.2.1, by have := y.2.2.2.2.1; have := y.2.2.2.2.2; omega⟩), fun z => absurd rfl z⟩)⟩) (fun z _ => ⟨fun _ => k0 (fun y => z ⟨y.2.1, y.2.2.1⟩), fun z => absurd rfl z⟩)⟩) (fun q _ => ⟨fun _ => k0 (fun y => q y.1), fun z => absurd rfl z⟩)
theorem m_first_x {Q : Int → ml_St → Prop} {h told ts cap w K : Int} {tb cl pr sz : Int → Int} {T : Int → Int → Int} {τ : ml_St} (i : IM h told ts cap tb cl pr sz T τ) (k1 : mt_md told (mt_mk h T sz) w → 0 ≤ K → K ≤ 1000000000000000000 → ∀ σ (a n : Nat) (r : Int), IM h told ts cap tb cl pr sz T σ → (∀ j, j < 215 → σ j = τ j) → mq_p h (mt_mk h T sz w) cl a n σ → mr_fst (mr_U h (mt_mk h T sz w) cl a n) K r → Q r σ) (k0 : ¬ (mt_md told (mt_mk h T sz) w ∧ 0 ≤ K ∧ K ≤ 1000000000000000000) → Q (-1) τ) : f_X12_first τ w K Q := by
  unfold f_X12_first f_X12_first_u0
  unfold f_X12_first_u15 f_X12_first_u44
  refine m_isMade i (fun q _ => ⟨fun z => absurd z (by omega), fun _ => s_isLoops12 (fun K0 K1 _ => ⟨fun _ => m_thoseOf_x i q K0 K1 (by omega) (by omega) (by omega) (fun σ a n y i' j' p hy ey _ => ?_), fun z => absurd z (by omega)⟩) (fun z _ => ⟨fun z => absurd rfl z, fun _ => k0 (fun y => z y.2)⟩)⟩) (fun q _ => ⟨fun _ => k0 (fun y => q y.1), fun z => absurd rfl z⟩)
  have k1 := fun r => k1 q K0 K1 σ a n r i' j' p
  generalize mr_U h (mt_mk h T sz w) cl a n = f at *
  have E : (((1000000000000000000 - 1 + 1 : Int).toNat : Nat) : Int) = 1000000000000000000 := by omega
  have sn := mr_sm_n (b := mr_t f K) (lo := 1) (1000000000000000000 - 1 + 1 : Int).toNat (fun x _ _ => mr_t_r f K x)
  have s0 := mr_sm_0 (b := mr_t f K) (lo := 1) (1000000000000000000 - 1 + 1 : Int).toNat
  generalize (1000000000000000000 - 1 + 1 : Int).toNat = N at *
  refine ⟨fun z _ => ?_, fun z => ?_⟩
  · rw [ey]
    rcases hy with ⟨y1, y2⟩ | ⟨y1, y2, y3, y4⟩
    · exact absurd (s0 (fun x x0 x1 => by unfold mr_t; exact if_neg (y2 x x0 (by omega) trivial))) z
    · exact k1 y (Or.inr ⟨y1, y2, y3, fun x x0 x1 => y4 x x0 x1 trivial⟩)
  · refine k1 (-1) (Or.inl ⟨rfl, fun x x0 x1 e => ?_⟩)
    have := sn z x x0 (by omega)
    unfold mr_t at this
    rw [if_pos e] at this
    omega
theorem c_those_x {Q : Int → ml_St → Prop} {h told ts cap w K fr to : Int} {tb cl pr sz : Int → Int} {T : Int → Int → Int} {σ0 : ml_St} (i : IC h told ts cap tb cl pr sz T σ0) (k1 : mr_tc told (mt_mk h T sz) w K fr to → ∀ σ (a n : Nat), IC h told ts cap tb cl pr sz T σ → (∀ j, 215 ≤ j → σ j = σ0 j) → mq_q h (mt_mk h T sz w) cl a n σ → Q (mr_sm (mr_t (mr_U h (mt_mk h T sz w) cl a n) K) fr (to - fr + 1).toNat) σ) (k0 : ¬ mr_tc told (mt_mk h T sz) w K fr to → Q (-1) σ0) : f_X11_those σ0 w K fr to Q := by
  have t16 := i.1.2.2.2.2.2
  have c := i.2.2.1
  have h2 := i.1.2.2.1
  have h5 := i.1.2.2.2.1
  unfold f_X11_those f_X11_those_u0
  unfold f_X11_those_u32
  refine c_isMade i (fun q _ => ⟨fun z => absurd z (by omega), fun _ => ⟨fun z => k0 (fun y => by have := y.2.1; omega), fun K0 => ⟨fun z => k0 (fun y => by have := y.2.2.1; omega), fun K1 => ?_⟩⟩⟩) (fun q _ => ⟨fun _ => k0 (fun y => q y.1), fun z => absurd rfl z⟩)
  have go : 1 ≤ fr → fr ≤ to → to ≤ 1000000000000000000 → f_X6_study σ0 (119 + 6 * w + 2) (σ0 1 11) (fun σ9 => f_X6_findRule σ9 (fun σ10 => f_X6_howMany σ10 K fr to (fun r11 σ11 => ∀ _ : I64 r11, Q r11 σ11))) := fun f1 ft t1 => by
    obtain ⟨g1, g2, g3, g4⟩ := IC_w i q.1 q.2.1
    have cv := IC_cv i q.1 q.2.1
    have b20 := mq_20 cv q.2.2
    rw [i.1.1, show 119 + 6 * w + 2 = 121 + 6 * w by omega]
    refine s_study_x h2 h5 (Or.inr (by have := q.1; omega)) (by have := q.1; omega) g3 g2 c.2.2.2.1 c.2.2.1 (mq_64_p h _ h2 h5 g3) (fun σ a n f p => ?_)
    have H : mq_h h (mt_mk h T sz w) cl := ⟨h2, h5, g3, g4, c.2.2.2.1, b20.1, b20.2⟩
    have n8 := mq_8 h2 h5 g3 p.2.2.2.2.2.2.2
    refine s_findRule_x H p (fun σ2 s m g f2 p2 e7 e8 e9 hr => ?_)
    have f' := mt_f46_kp (mt_f46_t f f2)
    exact s_howMany_x H p2 n8 hr e7 e8 e9 (by omega) (by omega) f1 ft t1 (fun _ => k1 ⟨q, by omega, by omega, f1, ft, t1⟩ σ2 a n (IC_kp f' i) (mt_kp_m f') p2)
  unfold f_X11_isStretch f_X11_isStretch_u0
  unfold f_X11_isStretch_u24 f_X11_isStretch_u25
  exact s_isPower (fun f1 f2 _ => ⟨fun z => absurd z (by omega), fun _ => s_isPower (fun t1 t2 _ => ⟨fun z => absurd z (by omega), fun _ => ⟨fun y _ => ⟨fun z => absurd rfl z, fun _ => k0 (fun x => by have := x.2.2.2.2.1; omega)⟩, fun y _ => ⟨fun _ => ⟨q.1, by have := q.2.1; omega, fun _ => go f1 (by omega) t2⟩, fun z => absurd z (by omega)⟩⟩⟩) (fun z _ => ⟨fun _ _ => ⟨fun z => absurd rfl z, fun _ => k0 (fun y => z ⟨by have := y.2.2.2.1; have := y.2.2.2.2.1; omega, y.2.2.2.2.2⟩)⟩, fun z => absurd rfl z⟩)⟩) (fun z _ => ⟨fun _ _ => ⟨fun z => absurd rfl z, fun _ => k0 (fun y => z ⟨y.2.2.2.1, by have := y.2.2.2.2.1; have := y.2.2.2.2.2; omega⟩)⟩, fun z => absurd rfl z⟩)
theorem c_first_x {Q : Int → ml_St → Prop} {h told ts cap w K : Int} {tb cl pr sz : Int → Int} {T : Int → Int → Int} {σ0 : ml_St} (i : IC h told ts cap tb cl pr sz T σ0) (k1 : mt_md told (mt_mk h T sz) w → 0 ≤ K → K ≤ 1000000000000000000 → ∀ σ (a n : Nat) (r : Int), IC h told ts cap tb cl pr sz T σ → (∀ j, 215 ≤ j → σ j = σ0 j) → mq_q h (mt_mk h T sz w) cl a n σ → mr_fst (mr_U h (mt_mk h T sz w) cl a n) K r → Q r σ) (k0 : ¬ (mt_md told (mt_mk h T sz) w ∧ 0 ≤ K ∧ K ≤ 1000000000000000000) → Q (-1) σ0) : f_X11_first σ0 w K Q := by
  have t16 := i.1.2.2.2.2.2
  have c := i.2.2.1
  have h2 := i.1.2.2.1
  have h5 := i.1.2.2.2.1
  unfold f_X11_first f_X11_first_u0
  unfold f_X11_first_u22
  refine c_isMade i (fun q _ => ⟨fun z => absurd z (by omega), fun _ => ⟨fun z => k0 (fun y => by have := y.2.1; omega), fun K0 => ⟨fun K1 => ⟨q.1, by have := q.2.1; omega, fun _ => ?_⟩, fun z => k0 (fun y => by have := y.2.2; omega)⟩⟩⟩) (fun q _ => ⟨fun _ => k0 (fun y => q y.1), fun z => absurd rfl z⟩)
  obtain ⟨g1, g2, g3, g4⟩ := IC_w i q.1 q.2.1
  have cv := IC_cv i q.1 q.2.1
  have b20 := mq_20 cv q.2.2
  rw [i.1.1, show 119 + 6 * w + 2 = 121 + 6 * w by omega]
  refine s_study_x h2 h5 (Or.inr (by have := q.1; omega)) (by have := q.1; omega) g3 g2 c.2.2.2.1 c.2.2.1 (mq_64_p h _ h2 h5 g3) (fun σ a n f p => ?_)
  have H : mq_h h (mt_mk h T sz w) cl := ⟨h2, h5, g3, g4, c.2.2.2.1, b20.1, b20.2⟩
  have n8 := mq_8 h2 h5 g3 p.2.2.2.2.2.2.2
  refine s_findRule_x H p (fun σ2 s m g f2 p2 e7 e8 e9 hr => ?_)
  have f' := mt_f46_kp (mt_f46_t f f2)
  exact s_firstWith_x H p2 n8 hr e7 e8 e9 (by omega) (by omega) (fun r hf _ => k1 q (by omega) (by omega) σ2 a n r (IC_kp f' i) (mt_kp_m f') p2 hf)
