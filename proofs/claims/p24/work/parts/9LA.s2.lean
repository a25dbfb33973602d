/-! the class: what study finds, exactly, where a power comes again among the first 64 -/
def mq_q (h : Int) (v cl : Int → Int) (a n : Nat) (σ : ml_St) : Prop := a < n ∧ n ≤ 63 ∧ σ 46 4 = a + 1 ∧ σ 46 5 = n - a ∧ σ 46 6 = w64 (mt_plo h v cl n - mt_plo h v cl a) ∧ (∀ i : Nat, i ≤ n → σ 48 (i + 1) = mt_plo h v cl i) ∧ mt_eq h (mt_pp h v a) (mt_pp h v n) ∧ mq_d h v n
theorem mq_u {h : Int} {v : Int → Int} {a n a' n' : Nat} (h1 : a < n) (e : mt_eq h (mt_pp h v a) (mt_pp h v n)) (d : mq_d h v n) (h1' : a' < n') (e' : mt_eq h (mt_pp h v a') (mt_pp h v n')) (d' : mq_d h v n') : a = a' ∧ n = n' := by
  have sy : ∀ {f g : Int → Int}, mt_eq h f g → mt_eq h g f := fun e x x0 x1 => (e x x0 x1).symm
  have tr : ∀ {f g k : Int → Int}, mt_eq h f g → mt_eq h g k → mt_eq h f k := fun e e2 x x0 x1 => (e x x0 x1).trans (e2 x x0 x1)
  have n1 : n = n' := by
    rcases Nat.lt_trichotomy n n' with z | z | z
    · exact absurd e (d' a n h1 z)
    · exact z
    · exact absurd e' (d a' n' h1' z)
  subst n1
  refine ⟨?_, rfl⟩
  rcases Nat.lt_trichotomy a a' with z | z | z
  · exact absurd (tr e (sy e')) (d a a' z h1')
  · exact z
  · exact absurd (tr e' (sy e)) (d a' a z h1)
theorem mt_nm_c {f g : Int → Int} : ∀ (k e o s : Nat), (∀ x : Nat, e ≤ x → x < e + k → f x = g x) → mt_nm f k e o s = mt_nm g k e o s := by
  intro k
  induction k with
  | zero => intro e o s _; rfl
  | succ k ih =>
    intro e o s h
    have i := fun o s => ih (e + 1) o s (fun x h1 h2 => h x (by omega) (by omega))
    unfold mt_nm
    rw [h e (by omega) (by omega), i, i]
theorem mt_num_c {h : Int} {f g : Int → Int} (h2 : 2 ≤ h) (h5 : h ≤ 5) (hf : mt_M h f) (e : mt_eq h f g) : mt_num h f = mt_num h g := by
  unfold mt_num
  exact mt_nm_c _ _ _ _ (fun x _ h2 => e x (by omega) (by omega))
theorem s_study_x {Q : ml_St → Prop} {p h : Int} {σ0 : ml_St} {v cl : Int → Int} (h2 : 2 ≤ h) (h5 : h ≤ 5) (pd : p + 3 ≤ 46 ∨ 55 ≤ p) (p5 : 5 < p) (hv : mt_M h v) (wv : mt_wv h σ0 p v) (hc : mt_M h cl) (ec : mt_eq h (σ0 5) cl) (nb : ¬ mq_d h v 64) (k : ∀ σ (a n : Nat), mt_f46 σ0 σ → mq_q h v cl a n σ → Q σ) : f_X6_study σ0 p h Q := by
  have M := fun n => mt_pp_M h5 hv n
  have NE : ∀ i j : Nat, mt_num h (mt_pp h v i) = mt_num h (mt_pp h v j) → mt_eq h (mt_pp h v i) (mt_pp h v j) := fun i j => mt_num_inj h2 h5 (M i) (M j)
  have EN : ∀ i j : Nat, mt_eq h (mt_pp h v i) (mt_pp h v j) → mt_num h (mt_pp h v i) = mt_num h (mt_pp h v j) := fun i j e => mt_num_c h2 h5 (M i) e
  have KE : ∀ (σ : ml_St) (a n : Nat), mt_f46 σ0 σ → a < n → n ≤ 63 → σ 46 4 = a + 1 → σ 46 5 = n - a → (∀ i : Nat, i ≤ n → σ 48 (i + 1) = mt_plo h v cl i) → mt_eq h (mt_pp h v a) (mt_pp h v n) → mq_d h v n → f_X6_study_u168 Q p σ := by
    intro σ a n f an n6 e1 e2 el ee dd
    unfold f_X6_study_u168
    have x1 := el n (Nat.le_refl n)
    have x2 := el a (by omega)
    rw [e1, e2, show (a : Int) + 1 + (n - a) = n + 1 by omega, x1, x2]
    refine fun _ _ => ⟨mt_i (by omega) (by omega), by omega, by omega, fun _ _ => ⟨by omega, by omega, fun _ σ8 s8 => ?_⟩⟩
    exact k σ8 a n (mt_f46_t f (by rw [s8]; exact mt_f46_up (by omega) (by omega))) ⟨an, n6, by rw [s8, ml_up_i (by omega), e1], by rw [s8, ml_up_i (by omega), e2], by rw [s8, ml_up_same], fun i hi => by rw [s8, ml_up_k (by omega)]; exact el i hi, ee, dd⟩
  have L : ∀ (N : Nat) (n : Nat) (σ : ml_St) (u : Int → Int), n ≤ 63 → 65 - (n : Int) < N → mt_f46 σ0 σ → (n = 0 → u = mt_pp h v 0) → (n ≠ 0 → u = mt_pp h v (n - 1)) → mt_wv h σ 49 u → (∀ i : Nat, i < n → σ 48 (i + 1) = mt_plo h v cl i) → (∀ i : Nat, i < n → σ 47 (i + 1) = mt_num h (mt_pp h v i)) → mq_d h v n → f_X6_study_u24 Q (f_X6_study_u168 Q p) p N σ h 0 (n + 1) := by
    intro N
    induction N with
    | zero => intro n σ u n1 hN; omega
    | succ N ih =>
      intro n σ u n6 hN f hu0 hu1 wu el en dd
      unfold f_X6_study_u24
      refine ⟨fun c => absurd c (by omega), fun c => ⟨fun c => absurd rfl c, fun _ => ?_⟩⟩
      have U66 : ∀ (σ : ml_St), mt_f46 σ0 σ → mt_wv h σ 49 (mt_pp h v n) → (∀ i : Nat, i < n → σ 48 (i + 1) = mt_plo h v cl i) → (∀ i : Nat, i < n → σ 47 (i + 1) = mt_num h (mt_pp h v i)) → f_X6_study_u66 Q (f_X6_study_u24 Q (f_X6_study_u168 Q p) p N) p σ h 0 (n + 1) := by
        intro σ f wu el en
        unfold f_X6_study_u66
        refine s_number h2 h5 (M n) (mt_eq_wa wu).1 (fun _ => ⟨by omega, by omega, fun σ2 s2 _ => ?_⟩)
        have k2 : ∀ j, j ≠ 47 → σ2 j = σ j := fun j hj => by rw [s2, ml_up_k hj]
        refine s_loopsBy (α := mt_pp h v n) (β := cl) h2 h5 (M n) hc (fun e e0 e1 => by rw [k2 _ (by omega)]; exact (wu.1 e e0 e1).1) (fun e e0 e1 => by rw [k2 _ (by omega), f 5 (by omega)]; exact ec e e0 e1) ?_
        refine fun _ => ⟨by omega, by omega, fun σ6 s6 => ⟨n + 1, ?_⟩⟩
        have w20 : σ2 49 2 = mt_pp h v n 20 := by rw [k2 49 (by omega)]; exact wu.2.1
        rw [w20] at s6
        have k6 : ∀ j, j ≠ 47 → j ≠ 48 → σ6 j = σ j := fun j h1 h3 => by rw [s6, ml_up_k h3, k2 j h1]
        have f6 : mt_f46 σ0 σ6 := fun j hj => by rw [k6 j (by omega) (by omega), f j hj]
        have w6 : mt_wv h σ6 49 (mt_pp h v n) := mt_wv_eq (k6 _ (by omega) (by omega)) (k6 _ (by omega) (by omega)) (k6 _ (by omega) (by omega)) wu
        have l6 : ∀ i : Nat, i < n + 1 → σ6 48 (i + 1) = mt_plo h v cl i := fun i hi => by
          rw [s6]
          by_cases z : i = n
          · subst z; rw [ml_up_same]; rfl
          · rw [ml_up_i (by omega), k2 48 (by omega)]; exact el i (by omega)
        have n6' : ∀ i : Nat, i < n + 1 → σ6 47 (i + 1) = mt_num h (mt_pp h v i) := fun i hi => by
          rw [s6, ml_up_k (by omega), s2]
          by_cases z : i = n
          · subst z; rw [ml_up_same]
          · rw [ml_up_i (by omega)]; exact en i (by omega)
        have I : ∀ (M' : Nat) (j : Nat), j ≤ n → n - j < M' → (∀ i : Nat, i < j → ¬ mt_eq h (mt_pp h v i) (mt_pp h v n)) → f_X6_study_u109 Q (f_X6_study_u162 Q (f_X6_study_u24 Q (f_X6_study_u168 Q p) p N) p) p M' σ6 h 0 (n + 1) (j + 1) := by
          intro M'
          induction M' with
          | zero => intro j j1 hM; omega
          | succ M' ihM =>
            intro j j1 hM dj
            unfold f_X6_study_u109
            refine ⟨fun c3 => ?_, fun c3 => ⟨fun c => absurd rfl c, fun _ => ⟨by omega, by omega, fun _ => ⟨by omega, by omega, fun _ => ?_⟩⟩⟩⟩
            · have ej : j = n := by omega
              subst ej
              have d' : mq_d h v (j + 1) := fun x y xy yj => by
                by_cases z : y = j
                · subst z; exact dj x xy
                · exact dd x y xy (by omega)
              have j6 : j ≠ 63 := fun z => nb (by rw [← show j + 1 = 64 by omega]; exact d')
              unfold f_X6_study_u162
              refine ⟨mt_i (by omega) (by omega), fun y1 e1 => ?_⟩
              have e1 : y1 = ((j + 1 : Nat) : Int) + 1 := by omega
              subst e1
              exact ih (j + 1) σ6 (mt_pp h v j) (by omega) (by omega) f6 (fun z => absurd z (by omega)) (fun _ => by rw [show j + 1 - 1 = j by omega]) w6 l6 n6' d'
            · rw [n6' j (by omega), n6' n (by omega)]
              refine ⟨fun ne => ?_, fun eq σ7 s7 => ⟨mt_i (by omega) (by omega), fun σ8 s8 => ?_⟩⟩
              · unfold f_X6_study_u156
                refine ⟨mt_i (by omega) (by omega), fun y1 e1 => ?_⟩
                have e1 : y1 = ((j + 1 : Nat) : Int) + 1 := by omega
                subst e1
                refine ihM (j + 1) (by omega) (by omega) (fun i hi => ?_)
                by_cases z : i = j
                · subst z; exact fun e => ne (by rw [EN i n e])
                · exact dj i (by omega)
              · have ee := NE j n (by omega)
                unfold f_X6_study_u156
                refine ⟨mt_i (by omega) (by omega), fun y1 e1 => ?_⟩
                have k8 : ∀ j, j ≠ 46 → σ8 j = σ6 j := fun j hj => by rw [s8, ml_up_k hj, s7, ml_up_k hj]
                have fin : f_X6_study_u162 Q (f_X6_study_u24 Q (f_X6_study_u168 Q p) p N) p σ8 h 1 (n + 1) := by
                  unfold f_X6_study_u162
                  refine ⟨mt_i (by omega) (by omega), fun y2 e2 => ?_⟩
                  obtain ⟨N', rfl⟩ : ∃ N', N = N' + 1 := ⟨N - 1, by omega⟩
                  have fk : f_X6_study_u168 Q p σ8 := KE σ8 j n (fun x hx => by rw [k8 x (by omega), f6 x hx]) (by omega) (by omega) (by rw [s8, ml_up_i (by omega), s7, ml_up_same]) (by rw [s8, ml_up_same]; omega) (fun i hi => by rw [k8 48 (by omega)]; exact l6 i (by omega)) ee dd
                  unfold f_X6_study_u24
                  exact ⟨fun _ => fk, fun _ => ⟨fun _ => fk, fun z => absurd z (by omega)⟩⟩
                obtain ⟨M'', rfl⟩ : ∃ M'', M' = M'' + 1 := ⟨M' - 1, by omega⟩
                unfold f_X6_study_u109
                exact ⟨fun _ => fin, fun _ => ⟨fun _ => fin, fun z => absurd z (by omega)⟩⟩
        have := I (n + 1) 0 (by omega) (by omega) (fun i hi => absurd hi (by omega))
        exact this
      refine ⟨fun c3 => ?_, fun c3 => ?_⟩
      · have n0 : n = 0 := by omega
        have := hu0 n0
        subst n0
        rw [this] at wu
        exact U66 σ f wu el en
      · obtain ⟨n', rfl⟩ : ∃ n', n = n' + 1 := ⟨n - 1, by omega⟩
        have eu := hu1 (by omega)
        rw [show n' + 1 - 1 = n' by omega] at eu
        rw [eu] at wu
        have wv' : mt_wv h σ p v := mt_wv_eq (f _ (by omega)) (f _ (by omega)) (f _ (by omega)) wv
        refine s_beBoth h2 h5 (by omega) (by omega) (M n') hv wu wv' (fun σ4 f4 w4 => s_beLike h5 (by omega) w4 (fun σ5 f5 w5 => ?_))
        have ff : mt_f46 σ σ5 := mt_f46_t (mt_f46_fr (by omega) (by omega) f4) (mt_f46_fr (by omega) (by omega) f5)
        have o : ∀ j, j = 47 ∨ j = 48 → σ5 j = σ j := fun j hj => by rw [f5 j (by omega) (by omega) (by omega), f4 j (by omega) (by omega) (by omega)]
        exact U66 σ5 (mt_f46_t f ff) w5 (fun i hi => by rw [o 48 (by omega)]; exact el i hi) (fun i hi => by rw [o 47 (by omega)]; exact en i hi)
  unfold f_X6_study f_X6_study_u0
  intro σ1 s1 σ2 s2
  have f2 : mt_f46 σ0 σ2 := by rw [s2, s1]; exact mt_f46_t (mt_f46_up (by omega) (by omega)) (mt_f46_up (by omega) (by omega))
  refine s_beLike h5 (by omega) (mt_wv_eq (f2 _ (by omega)) (f2 _ (by omega)) (f2 _ (by omega)) wv) (fun σ3 f3 w3 => ⟨66, ?_⟩)
  have := L 66 0 σ3 v (by omega) (by omega) (mt_f46_t f2 (mt_f46_fr (by omega) (by omega) f3)) (fun _ => rfl) (fun z => absurd rfl z) w3 (fun i hi => absurd hi (by omega)) (fun i hi => absurd hi (by omega)) (fun i j _ hj => absurd hj (by omega))
  exact this
/-- some power comes again among the first 64 -/
def mq_64 : Prop := ∀ (h : Int) (v : Int → Int), 2 ≤ h → h ≤ 5 → mt_M h v → ¬ mq_d h v 64
theorem c_power_x {Q : Int → ml_St → Prop} {h told ts cap w x : Int} {tb cl pr sz : Int → Int} {T : Int → Int → Int} {σ0 : ml_St} (nb : mq_64) (i : IC h told ts cap tb cl pr sz T σ0) (k1 : mt_md told (mt_mk h T sz) w → 0 ≤ x → x ≤ 1 → ∀ σ (a n : Nat), IC h told ts cap tb cl pr sz T σ → (∀ j, 215 ≤ j → σ j = σ0 j) → mq_q h (mt_mk h T sz w) cl a n σ → Q (if x = 0 then (a : Int) + 1 else n - a) σ) (k0 : ¬ (mt_md told (mt_mk h T sz) w ∧ 0 ≤ x ∧ x ≤ 1) → Q (-1) σ0) : f_X11_power σ0 w x Q := by
  have t16 := i.1.2.2.2.2.2
  unfold f_X11_power f_X11_power_u0
  unfold f_X11_power_u17 f_X11_power_u64
  refine c_isMade i (fun q _ => ⟨fun z => absurd z (by omega), fun _ => ⟨fun _ => k0 (by omega), fun x0 => ⟨fun x1 => ⟨q.1, by have := q.2.1; omega, fun _ => ?_⟩, fun _ => k0 (by omega)⟩⟩⟩) (fun q _ => ⟨fun _ => k0 (fun z => q z.1), fun z => absurd rfl z⟩)
  obtain ⟨g1, g2, g3, g4⟩ := IC_w i q.1 q.2.1
  have c := i.2.2.1
  rw [i.1.1, show 119 + 6 * w + 2 = 121 + 6 * w by omega]
  refine s_study_x i.1.2.2.1 i.1.2.2.2.1 (Or.inr (by have := q.1; omega)) (by have := q.1; omega) g3 g2 c.2.2.2.1 c.2.2.1 (nb h _ i.1.2.2.1 i.1.2.2.2.1 g3) (fun σ a n f p => ?_)
  have k := k1 q (by omega) (by omega) σ a n (IC_kp (mt_f46_kp f) i) (mt_kp_m (mt_f46_kp f)) p
  rw [p.2.2.1, p.2.2.2.1]
  refine ⟨fun z _ => ?_, fun z _ => ?_⟩
  · rw [if_neg z] at k; exact k
  · rw [if_pos z] at k; exact k
/-! some power of a matching of at most 10 ends comes again soon: all 1068 matchings are gone through -/
def bf_get (c x : Nat) : Nat := c / 16 ^ x % 16
def bf_cd (f : Nat → Nat) : Nat → Nat
  | 0 => 0
  | n + 1 => bf_cd f n + f n * 16 ^ n
def bf_f (c : Nat) (e : Int) : Int := (bf_get c e.toNat : Nat)
def bf_pr (h u v : Nat) : Nat := bf_cd (fun e => (mt_prod h (bf_f u) (bf_f v) e).toNat) (2 * h)
def bf_t (h v : Nat) : Nat → List Nat → Nat → Bool
  | 0, _, _ => false
  | F + 1, seen, u => if seen.contains u then true else mb_fc (bf_pr h u v) (fun u' => bf_t h v F (u :: seen) u')
def bf_all (h : Nat) : Nat → List Nat → Nat → Bool
  | 0, _, _ => false
  | F + 1, free, c => match free with
    | [] => bf_t h c 8 [] c
    | e :: rest => rest.all (fun j => mb_fc (c + j * 16 ^ e + e * 16 ^ j) (fun c' => bf_all h F (rest.erase j) c'))
theorem bf_2 : bf_all 2 3 [0, 1, 2, 3] 0 = true := by decide +kernel
theorem bf_3 : bf_all 3 4 [0, 1, 2, 3, 4, 5] 0 = true := by decide +kernel
theorem bf_4 : bf_all 4 5 [0, 1, 2, 3, 4, 5, 6, 7] 0 = true := by decide +kernel
theorem bf_5 : bf_all 5 6 [0, 1, 2, 3, 4, 5, 6, 7, 8, 9] 0 = true := by decide +kernel
theorem bf_cd_c {g g' : Nat → Nat} : ∀ n, (∀ x, x < n → g' x = g x) → bf_cd g' n = bf_cd g n := by
  intro n
  induction n with
  | zero => intro _; rfl
  | succ n ih => intro h; unfold bf_cd; rw [ih (fun x hx => h x (by omega)), h n (by omega)]
theorem bf_cd_up {g g' : Nat → Nat} {e : Nat} (he : ∀ x, x ≠ e → g' x = g x) (z : g e = 0) : ∀ n, e < n → bf_cd g' n = bf_cd g n + g' e * 16 ^ e := by
  intro n
  induction n with
  | zero => intro h; omega
  | succ n ih =>
    intro h
    unfold bf_cd
    by_cases q : e = n
    · subst q
      rw [bf_cd_c e (fun x hx => he x (by omega)), z]; omega
    · rw [ih (by omega), he n (by omega)]; omega
theorem bf_cd_lt {f : Nat → Nat} : ∀ n, (∀ x, x < n → f x < 16) → bf_cd f n < 16 ^ n := by
  intro n
  induction n with
  | zero => intro _; show 0 < 1; omega
  | succ n ih =>
    intro h
    have a := ih (fun x hx => h x (by omega))
    have b := Nat.mul_le_mul_right (16 ^ n) (show f n ≤ 15 by have := h n (by omega); omega)
    unfold bf_cd
    rw [Nat.pow_succ]
    omega
theorem bf_get_cd {f : Nat → Nat} : ∀ n, (∀ x, x < n → f x < 16) → ∀ x, x < n → bf_get (bf_cd f n) x = f x := by
  intro n
  induction n with
  | zero => intro _ x hx; omega
  | succ n ih =>
    intro h x hx
    have a := bf_cd_lt n (fun x hx => h x (by omega))
    unfold bf_cd bf_get
    by_cases q : x = n
    · subst q
      rw [Nat.add_mul_div_right _ _ (Nat.pow_pos (by omega)), Nat.div_eq_of_lt a, Nat.zero_add, Nat.mod_eq_of_lt (h x (by omega))]
    · have i := ih (fun x hx => h x (by omega)) x (by omega)
      unfold bf_get at i
      have e : f n * 16 ^ n = f n * 16 ^ (n - x - 1) * 16 * 16 ^ x := by
        have : 16 ^ n = 16 ^ (n - x - 1) * 16 * 16 ^ x := by
          rw [← Nat.pow_succ, ← Nat.pow_add, show (n - x - 1).succ + x = n by omega]
        rw [this, ← Nat.mul_assoc, ← Nat.mul_assoc]
      rw [e, Nat.add_mul_div_right _ _ (Nat.pow_pos (by omega)), Nat.add_mul_mod_self_right]
      exact i
theorem bf_t_s {h c : Nat} {cu : Nat → Nat} (h0 : ∀ n, cu (n + 1) = bf_pr h (cu n) c) : ∀ (F n : Nat) (seen : List Nat), (∀ y, y ∈ seen → ∃ i, i < n ∧ cu i = y) → bf_t h c F seen (cu n) = true → ∃ i m, i < m ∧ m ≤ n + F ∧ cu i = cu m := by
  intro F
  induction F with
  | zero => intro n seen _ t; exact absurd t (by unfold bf_t; decide)
  | succ F ih =>
    intro n seen hs t
    unfold bf_t at t
    by_cases q : seen.contains (cu n) = true
    · obtain ⟨i, i1, i2⟩ := hs (cu n) (by simpa using q)
      exact ⟨i, n, i1, by omega, i2⟩
    · rw [if_neg q, mb_fc_e, ← h0 n] at t
      obtain ⟨i, m, i1, i2, i3⟩ := ih (n + 1) (cu n :: seen) (fun y hy => by
        rcases List.mem_cons.mp hy with z | z
        · exact ⟨n, by omega, z.symm⟩
        · obtain ⟨i, i1, i2⟩ := hs y z
          exact ⟨i, by omega, i2⟩) t
      exact ⟨i, m, i1, by omega, i3⟩
theorem bf_all_s {h : Nat} {f : Nat → Nat} (hf : ∀ x, x < 2 * h → f x < 2 * h ∧ f (f x) = x ∧ f x ≠ x) : ∀ (F : Nat) (free : List Nat) (c : Nat), free.Nodup → (∀ x, x ∈ free → x < 2 * h ∧ f x ∈ free) → c = bf_cd (fun x => if x ∈ free then 0 else f x) (2 * h) → bf_all h F free c = true → bf_t h (bf_cd f (2 * h)) 8 [] (bf_cd f (2 * h)) = true := by
  intro F
  induction F with
  | zero => intro free c _ _ _ t; exact absurd t (by unfold bf_all; decide)
  | succ F ih =>
    intro free c nd cl ec t
    cases free with
    | nil =>
      have : c = bf_cd f (2 * h) := by rw [ec]; exact bf_cd_c _ (fun x _ => by simp)
      rw [← this]
      exact t
    | cons e rest =>
      have t : rest.all (fun j => mb_fc (c + j * 16 ^ e + e * 16 ^ j) (fun c' => bf_all h F (rest.erase j) c')) = true := t
      obtain ⟨ne, ndr⟩ := List.nodup_cons.mp nd
      obtain ⟨e1, e2⟩ := cl e List.mem_cons_self
      obtain ⟨f1, f2, f3⟩ := hf e e1
      have jr : f e ∈ rest := (List.mem_cons.mp e2).resolve_left f3
      have tj := List.all_eq_true.mp t (f e) jr
      rw [mb_fc_e] at tj
      have me : ∀ x, x ∈ rest.erase (f e) ↔ x ≠ f e ∧ x ∈ rest := fun x => ndr.mem_erase_iff
      refine ih _ _ (ndr.erase _) (fun x hx => ?_) ?_ tj
      · obtain ⟨x1, x2⟩ := (me x).1 hx
        obtain ⟨y1, y2⟩ := cl x (List.mem_cons_of_mem _ x2)
        obtain ⟨z1, z2, z3⟩ := hf x y1
        refine ⟨y1, (me _).2 ⟨fun q => ?_, (List.mem_cons.mp y2).resolve_left (fun q => ?_)⟩⟩
        · have : x = e := by rw [← z2, q, f2]
          rw [this] at x2; exact ne x2
        · exact x1 (by rw [← q, z2])
      · have u1 := bf_cd_up (g := fun x => if x ∈ e :: rest then 0 else f x) (g' := fun x => if x = e then f e else if x ∈ e :: rest then 0 else f x) (e := e) (fun x hx => by simp only [if_neg hx]) (by simp) (2 * h) e1
        have u2 := bf_cd_up (g := fun x => if x = e then f e else if x ∈ e :: rest then 0 else f x) (g' := fun x => if x = f e then e else if x = e then f e else if x ∈ e :: rest then 0 else f x) (e := f e) (fun x hx => by simp only [if_neg hx]) (by simp [f3, jr]) (2 * h) f1
        have u3 := bf_cd_c (g := fun x => if x = f e then e else if x = e then f e else if x ∈ e :: rest then 0 else f x) (g' := fun x => if x ∈ rest.erase (f e) then 0 else f x) (2 * h) (fun x _ => by
          by_cases q1 : x = f e
          · have : ¬ x ∈ rest.erase (f e) := fun z => ((me x).1 z).1 q1
            simp only [if_neg this, if_pos q1]; rw [q1, f2]
          · by_cases q2 : x = e
            · have : ¬ x ∈ rest.erase (f e) := fun z => ne (by rw [← q2]; exact ((me x).1 z).2)
              simp only [if_neg this, if_neg q1, if_pos q2]; rw [q2]
            · by_cases q3 : x ∈ rest
              · have h1 : x ∈ rest.erase (f e) := (me x).2 ⟨q1, q3⟩
                have h2 : x ∈ e :: rest := List.mem_cons_of_mem _ q3
                simp only [if_pos h1, if_neg q1, if_neg q2, if_pos h2]
              · have h1 : ¬ x ∈ rest.erase (f e) := fun z => q3 ((me x).1 z).2
                have h2 : ¬ x ∈ e :: rest := fun z => q3 ((List.mem_cons.mp z).resolve_left q2)
                simp only [if_neg h1, if_neg q1, if_neg q2, if_neg h2])
        simp only [if_true] at u1 u2
        rw [u3, u2, u1, ec]
theorem mq_8_p {h : Int} {v : Int → Int} (h2 : 2 ≤ h) (h5 : h ≤ 5) (hv : mt_M h v) : ∃ a m : Nat, a < m ∧ m ≤ 8 ∧ mt_eq h (mt_pp h v a) (mt_pp h v m) := by
  obtain ⟨H, rfl⟩ : ∃ H : Nat, h = H := ⟨h.toNat, by omega⟩
  -- v as natural numbers
  have hf : ∀ x : Nat, x < 2 * H → (v x).toNat < 2 * H ∧ (v ((v x).toNat : Nat)).toNat = x ∧ (v x).toNat ≠ x := fun x hx => by
    obtain ⟨y1, y2, y3, y4⟩ := hv x (by omega) (by omega)
    have e : (((v x).toNat : Nat) : Int) = v x := by omega
    rw [e, y3]
    omega
  have DE : ∀ g : Int → Int, mt_M H g → mt_eq H g (bf_f (bf_cd (fun x => (g x).toNat) (2 * H))) := fun g hg e e0 e1 => by
    unfold bf_f
    rw [bf_get_cd (f := fun x => (g x).toNat) (2 * H) (fun x hx => by have := hg x (by omega) (by omega); omega) e.toNat (by omega)]
    have := hg e e0 e1
    rw [show ((e.toNat : Nat) : Int) = e by omega]
    omega
  have T : bf_t H (bf_cd (fun x : Nat => (v x).toNat) (2 * H)) 8 [] (bf_cd (fun x : Nat => (v x).toNat) (2 * H)) = true := by
    have c4 : H = 2 ∨ H = 3 ∨ H = 4 ∨ H = 5 := by omega
    have go : ∀ (F : Nat) (l : List Nat), l.Nodup → (∀ x, x ∈ l ↔ x < 2 * H) → bf_all H F l 0 = true → bf_t H (bf_cd (fun x : Nat => (v x).toNat) (2 * H)) 8 [] (bf_cd (fun x : Nat => (v x).toNat) (2 * H)) = true := fun F l nd ml t => by
      refine bf_all_s (f := fun x : Nat => (v x).toNat) hf F l 0 nd (fun x hx => ⟨(ml x).1 hx, (ml _).2 (hf x ((ml x).1 hx)).1⟩) ?_ t
      have z : ∀ n : Nat, bf_cd (fun _ => 0) n = 0 := by
        intro n
        induction n with
        | zero => rfl
        | succ n ih => unfold bf_cd; rw [ih]; omega
      exact (z (2 * H)).symm.trans (bf_cd_c (2 * H) (fun x hx => by rw [if_pos ((ml x).2 hx)])).symm
    rcases c4 with z | z | z | z
    · subst z; exact go _ _ (by decide) (fun x => by simp; omega) bf_2
    · subst z; exact go _ _ (by decide) (fun x => by simp; omega) bf_3
    · subst z; exact go _ _ (by decide) (fun x => by simp; omega) bf_4
    · subst z; exact go _ _ (by decide) (fun x => by simp; omega) bf_5
  generalize hc : bf_cd (fun x : Nat => (v x).toNat) (2 * H) = c at T
  obtain ⟨cu, c0, cs⟩ : ∃ cu : Nat → Nat, cu 0 = c ∧ ∀ n, cu (n + 1) = bf_pr H (cu n) c := ⟨fun n => Nat.rec c (fun _ y => bf_pr H y c) n, rfl, fun _ => rfl⟩
  rw [← c0] at T
  obtain ⟨a, m, am, m12, e⟩ := bf_t_s (h := H) (c := c) cs 8 0 [] (fun y hy => absurd hy List.not_mem_nil) (by rw [← c0]; exact T)
  have hvc : mt_eq H v (bf_f c) := by rw [← hc]; exact DE v hv
  have E : ∀ n, mt_eq H (mt_pp H v n) (bf_f (cu n)) := by
    intro n
    induction n with
    | zero => rw [c0]; exact hvc
    | succ n ih =>
      have M := mt_pp_M h5 hv n
      have PM := mt_prod_M h5 M hv
      have P : mt_eq H (mt_prod H (mt_pp H v n) v) (mt_prod H (bf_f (cu n)) (bf_f c)) := fun e e0 e1 => by
        unfold mt_prod
        rw [mt_eq_out ih hvc _ _ (mt_s_all e0 e1).1]
      intro e e0 e1
      show mt_both H (mt_pp H v n) v e = _
      rw [mt_eq_both h5 e e0 e1, cs n, DE _ PM e e0 e1]
      unfold bf_pr
      rw [bf_cd_c (2 * H) (fun x hx => by rw [P x (by omega) (by omega)])]
  exact ⟨a, m, am, by omega, fun x x0 x1 => by rw [E a x x0 x1, E m x x0 x1, e]⟩
theorem mq_64_p : mq_64 := fun h v h2 h5 hv d => by
  obtain ⟨a, m, am, m8, e⟩ := mq_8_p h2 h5 hv
  exact d a m am (by omega) e
/-- the first power that has come before is one of the first nine -/
theorem mq_8 {h : Int} {v : Int → Int} {n : Nat} (h2 : 2 ≤ h) (h5 : h ≤ 5) (hv : mt_M h v) (d : mq_d h v n) : n ≤ 8 := by
  obtain ⟨a, m, am, m8, e⟩ := mq_8_p h2 h5 hv
  rcases Nat.lt_or_ge 8 n with z | z
  · exact absurd e (d a m am (by omega))
  · exact z
/-! how many loops the powers leave: no long is left -/
theorem mt_rs_lb2 {h : Int} {a b : Int → Int} (l0 : 0 ≤ a 20 + b 20) (l1 : a 20 + b 20 ≤ 100000000000000000) : ∀ n : Nat, n ≤ 5 → a 20 + b 20 ≤ (mt_rs h a b n).2.1 ∧ (mt_rs h a b n).2.1 ≤ a 20 + b 20 + n := by
  intro n
  induction n with
  | zero =>
    intro _
    show a 20 + b 20 ≤ w64 (a 20 + b 20) ∧ w64 (a 20 + b 20) ≤ _
    rw [w64_id ⟨by omega, by omega⟩]; omega
  | succ n ih =>
    intro hn
    obtain ⟨i1, i2⟩ := ih (by omega)
    unfold mt_rs
    split
    · show a 20 + b 20 ≤ w64 ((mt_rs h a b n).2.1 + 1) ∧ w64 ((mt_rs h a b n).2.1 + 1) ≤ _
      rw [w64_id ⟨by omega, by omega⟩]; omega
    · omega
/-- power n + 1 leaves at least n + 1 times what v leaves, and not much more -/
theorem mt_pp_20 {h : Int} {v : Int → Int} (h0 : 0 ≤ h) (h5 : h ≤ 5) (v0 : 0 ≤ v 20) (v1 : v 20 ≤ 5000000000000) : ∀ n : Nat, n ≤ 2000 → (n + 1) * v 20 ≤ mt_pp h v n 20 ∧ mt_pp h v n 20 ≤ (n + 1) * v 20 + 5 * n := by
  intro n
  induction n with
  | zero => intro _; show ((0 : Nat) + 1 : Int) * v 20 ≤ v 20 ∧ v 20 ≤ ((0 : Nat) + 1 : Int) * v 20 + 5 * (0 : Nat); omega
  | succ n ih =>
    intro hn
    obtain ⟨i1, i2⟩ := ih (by omega)
    have a := Int.mul_le_mul_of_nonneg_right (show (n : Int) + 1 ≤ 2001 by omega) v0
    have b := Int.mul_nonneg (show (0 : Int) ≤ (n : Int) + 1 by omega) v0
    have e : (((n + 1 : Nat) : Int) + 1) * v 20 = ((n : Int) + 1) * v 20 + v 20 := by rw [show ((n + 1 : Nat) : Int) = (n : Int) + 1 by omega, Int.add_mul ((n : Int) + 1) 1 (v 20), Int.one_mul]
    have := mt_rs_lb2 (h := h) (a := mt_pp h v n) (b := v) (by omega) (by omega) h.toNat (by omega)
    show _ ≤ mt_both h (mt_pp h v n) v 20 ∧ mt_both h (mt_pp h v n) v 20 ≤ _
    rw [mt_both_20, e]
    omega
/-- what a power leaves closed, as a number: between 0 and 10^17, and it doesn't fall -/
theorem mt_plo_r {h : Int} {v cl : Int → Int} (h0 : 0 ≤ h) (h5 : h ≤ 5) (hv : mt_M h v) (hc : mt_M h cl) (v0 : 0 ≤ v 20) (v1 : v 20 ≤ 5000000000000) {n : Nat} (hn : n ≤ 2000) : mt_plo h v cl n = mt_pp h v n 20 + mt_cl h (mt_pp h v n) cl ∧ 0 ≤ mt_plo h v cl n ∧ mt_plo h v cl n ≤ 20000000000000000 := by
  obtain ⟨i1, i2⟩ := mt_pp_20 h0 h5 v0 v1 n hn
  have a := Int.mul_le_mul_of_nonneg_right (show (n : Int) + 1 ≤ 2001 by omega) v0
  have b := Int.mul_nonneg (show (0 : Int) ≤ (n : Int) + 1 by omega) v0
  have c := mt_cl_r h0 h5 (mt_pp_M h5 hv n) hc
  unfold mt_plo
  rw [w64_id ⟨by omega, by omega⟩]
  omega
theorem mt_pp_m {h : Int} {v : Int → Int} (h0 : 0 ≤ h) (h5 : h ≤ 5) (v0 : 0 ≤ v 20) (v1 : v 20 ≤ 5000000000000) {n : Nat} : ∀ k : Nat, n + k ≤ 2000 → mt_pp h v n 20 ≤ mt_pp h v (n + k) 20 := by
  intro k
  induction k with
  | zero => intro _; exact Int.le_refl _
  | succ k ih =>
    intro hn
    have i := ih (by omega)
    obtain ⟨i1, i2⟩ := mt_pp_20 h0 h5 v0 v1 (n + k) (by omega)
    have a := Int.mul_le_mul_of_nonneg_right (show ((n + k : Nat) : Int) + 1 ≤ 2001 by omega) v0
    have b := Int.mul_nonneg (show (0 : Int) ≤ ((n + k : Nat) : Int) + 1 by omega) v0
    have := mt_rs_lb2 (h := h) (a := mt_pp h v (n + k)) (b := v) (by omega) (by omega) h.toNat (by omega)
    show _ ≤ mt_both h (mt_pp h v (n + k)) v 20
    rw [mt_both_20]
    omega
/-- from a power that comes again on, what is left grows by the same, which is no less than 0 -/
theorem mt_plo_g {h : Int} {v cl : Int → Int} (h0 : 0 ≤ h) (h5 : h ≤ 5) (hv : mt_M h v) (ov : mt_ok h v) (hc : mt_M h cl) (v0 : 0 ≤ v 20) (v1 : v 20 ≤ 5000000000000) {a b : Nat} (ab : a ≤ b) (e : mt_eq h (mt_pp h v a) (mt_pp h v b)) (k : Nat) (hb : b + k ≤ 2000) : mt_plo h v cl (b + k) = mt_plo h v cl (a + k) + (mt_plo h v cl b - mt_plo h v cl a) ∧ mt_plo h v cl a ≤ mt_plo h v cl b := by
  have d := mt_lo_d h0 h5 hv ov hc e k
  obtain ⟨a1, a2, a3⟩ := mt_plo_r h0 h5 hv hc v0 v1 (show a ≤ 2000 by omega)
  obtain ⟨b1, b2, b3⟩ := mt_plo_r h0 h5 hv hc v0 v1 (show b ≤ 2000 by omega)
  obtain ⟨c1, c2, c3⟩ := mt_plo_r h0 h5 hv hc v0 v1 (show a + k ≤ 2000 by omega)
  obtain ⟨d1, d2, d3⟩ := mt_plo_r h0 h5 hv hc v0 v1 (show b + k ≤ 2000 by omega)
  rw [w64_id ⟨by omega, by omega⟩, w64_id ⟨by omega, by omega⟩] at d
  refine ⟨by omega, ?_⟩
  have m := mt_pp_m h0 h5 v0 v1 (n := a) (b - a) (by omega)
  rw [show a + (b - a) = b by omega] at m
  have cc := mt_cl_c h0 (mt_pp_M h5 hv a) hc e
  omega
/-- some rounds on -/
theorem mt_plo_j {h : Int} {v cl : Int → Int} (h0 : 0 ≤ h) (h5 : h ≤ 5) (hv : mt_M h v) (ov : mt_ok h v) (hc : mt_M h cl) (v0 : 0 ≤ v 20) (v1 : v 20 ≤ 5000000000000) {a b : Nat} (ab : a ≤ b) (e : mt_eq h (mt_pp h v a) (mt_pp h v b)) (k : Nat) : ∀ j : Nat, a + k + j * (b - a) ≤ 2000 → mt_plo h v cl (a + k + j * (b - a)) = mt_plo h v cl (a + k) + j * (mt_plo h v cl b - mt_plo h v cl a) := by
  intro j
  induction j with
  | zero => intro _; rw [Nat.zero_mul, Nat.add_zero]; simp
  | succ j ih =>
    intro hj
    have ej : (j + 1) * (b - a) = j * (b - a) + (b - a) := by rw [Nat.add_mul, Nat.one_mul]
    have g := (mt_plo_g h0 h5 hv ov hc v0 v1 ab e (k + j * (b - a)) (by omega)).1
    rw [show a + k + (j + 1) * (b - a) = b + (k + j * (b - a)) by omega, g, show a + (k + j * (b - a)) = a + k + j * (b - a) by omega, ih (by omega), show ((j + 1 : Nat) : Int) = (j : Int) + 1 by omega, Int.add_mul, Int.one_mul]
    omega
/-! a sign behind or before a matching: what becomes of its pairs -/
def sg_t (x y e : Int) : Int := if e = x then y else if e = y then x else e
def sg_f (u x y : Int) (f : Int → Int) (e : Int) : Int := if u = 0 then sg_t x y (f (sg_t x y e)) else if e = x then y else if e = y then x else if f e = x then f y else if f e = y then f x else f e
theorem sg_S0 {h r q : Int} (h5 : h ≤ 5) (r0 : 0 ≤ r) (r1 : r + 2 ≤ h) (q0 : 0 ≤ q) (q1 : q < h) : mt_sgn h r 0 q = h + sg_t r (r + 1) q ∧ mt_sgn h r 0 (h + q) = sg_t r (r + 1) q := by
  unfold mt_sgn mt_str sg_t
  rw [if_pos (show q < 10 by omega), if_pos (show h + q < 10 by omega), if_pos (show q < 10 by omega), if_pos (show h + q < 10 by omega), if_pos rfl, if_pos rfl]
  constructor <;> (repeat' split) <;> omega
theorem sg_S1 {h r u q : Int} (h5 : h ≤ 5) (hu : u ≠ 0) (r0 : 0 ≤ r) (r1 : r + 2 ≤ h) (q0 : 0 ≤ q) (q1 : q < h) : (q = r → mt_sgn h r u q = r + 1 ∧ mt_sgn h r u (h + q) = h + r + 1) ∧ (q = r + 1 → mt_sgn h r u q = r ∧ mt_sgn h r u (h + q) = h + r) ∧ (q ≠ r → q ≠ r + 1 → mt_sgn h r u q = h + q ∧ mt_sgn h r u (h + q) = q) := by
  unfold mt_sgn mt_str
  rw [if_pos (show q < 10 by omega), if_pos (show h + q < 10 by omega), if_pos (show q < 10 by omega), if_pos (show h + q < 10 by omega), if_neg hu, if_neg hu]
  refine ⟨fun z => ?_, fun z => ?_, fun z z2 => ?_⟩ <;> constructor <;> (repeat' split) <;> omega
theorem mo_A1 {h e : Int} {a b : Int → Int} {n : Nat} (e1 : e < 2 * h) (l : a e < h) : mt_out h a b (n + 1) e = a e := by
  have p : mt_P h a b e = a e := if_pos e1
  unfold mt_out; rw [p, if_neg (by omega)]
theorem mo_A2 {h e : Int} {a b : Int → Int} {n : Nat} (h0 : 0 ≤ h) (e1 : e < 2 * h) (l : h ≤ a e) (l2 : a e < 2 * h) : mt_out h a b (n + 1) e = mt_out h a b n (2 * h + (a e - h)) := by
  have p : mt_P h a b e = a e := if_pos e1
  have j : mt_J h (a e) = 2 * h + (a e - h) := by unfold mt_J; rw [if_pos l2]; omega
  have : mt_out h a b (n + 1) e = if h ≤ mt_P h a b e ∧ mt_P h a b e < 3 * h then mt_out h a b n (mt_J h (mt_P h a b e)) else mt_P h a b e := rfl
  rw [this, p, if_pos (by omega), j]
theorem mo_B1 {h q : Int} {a b : Int → Int} {n : Nat} (q0 : 0 ≤ q) (l : h ≤ b q) : mt_out h a b (n + 1) (2 * h + q) = 2 * h + b q := by
  have p : mt_P h a b (2 * h + q) = 2 * h + b q := by unfold mt_P; rw [if_neg (by omega), show 2 * h + q - 2 * h = q by omega]
  unfold mt_out; rw [p, if_neg (by omega)]
theorem mo_B2 {h q : Int} {a b : Int → Int} {n : Nat} (h0 : 0 ≤ h) (q0 : 0 ≤ q) (l0 : 0 ≤ b q) (l : b q < h) : mt_out h a b (n + 1) (2 * h + q) = mt_out h a b n (h + b q) := by
  have p : mt_P h a b (2 * h + q) = 2 * h + b q := by unfold mt_P; rw [if_neg (by omega), show 2 * h + q - 2 * h = q by omega]
  have j : mt_J h (2 * h + b q) = h + b q := by unfold mt_J; rw [if_neg (by omega)]; omega
  have : mt_out h a b (n + 1) (2 * h + q) = if h ≤ mt_P h a b (2 * h + q) ∧ mt_P h a b (2 * h + q) < 3 * h then mt_out h a b n (mt_J h (mt_P h a b (2 * h + q))) else mt_P h a b (2 * h + q) := rfl
  rw [this, p, if_pos (by omega), j]
theorem mo_e0 {h x : Int} (l : x < h) : mt_e h x = x := if_pos l
theorem mo_e1 {h x : Int} (l : ¬ x < h) : mt_e h x = x - 2 * h := if_neg l
theorem sg_t_h {x y e : Int} (a : e ≠ x) (b : e ≠ y) : sg_t x y e = e := by unfold sg_t; rw [if_neg a, if_neg b]
theorem sg_t_p {h r e : Int} : sg_t (h + r) (h + r + 1) (h + e) = h + sg_t r (r + 1) e := by unfold sg_t; (repeat' split) <;> omega
theorem sg_t_r {h r q : Int} (r0 : 0 ≤ r) (r1 : r + 2 ≤ h) (q0 : 0 ≤ q) (q1 : q < h) : 0 ≤ sg_t r (r + 1) q ∧ sg_t r (r + 1) q < h := by unfold sg_t; constructor <;> (repeat' split) <;> omega
theorem sg_r {h r u e : Int} {a : Int → Int} (h2 : 2 ≤ h) (h5 : h ≤ 5) (ha : mt_M h a) (r0 : 0 ≤ r) (r1 : r + 2 ≤ h) (e0 : 0 ≤ e) (e1 : e < 2 * h) : mt_prod h a (mt_sgn h r u) e = sg_f u (h + r) (h + r + 1) a e := by
  unfold mt_prod sg_f
  by_cases hu : u = 0
  · subst hu
    rw [if_pos rfl]
    have RA : ∀ (n : Nat) (e : Int), 0 ≤ e → e < 2 * h → mt_e h (mt_out h a (mt_sgn h r 0) (n + 2) e) = sg_t (h + r) (h + r + 1) (a e) := fun n e e0 e1 => by
      obtain ⟨m1, m2, m3, m4⟩ := ha e e0 e1
      by_cases z : a e < h
      · rw [mo_A1 e1 z, mo_e0 z, sg_t_h (by omega) (by omega)]
      · obtain ⟨s1, s2⟩ := sg_S0 (q := a e - h) h5 r0 r1 (by omega) (by omega)
        have t := sg_t_r (q := a e - h) r0 r1 (by omega) (by omega)
        rw [mo_A2 (by omega) e1 (by omega) m2, mo_B1 (by omega) (by rw [s1]; omega), s1, mo_e1 (by omega)]
        have p := sg_t_p (h := h) (r := r) (e := a e - h)
        rw [show h + (a e - h) = a e by omega] at p
        rw [p]; omega
    by_cases z : e < h
    · rw [show mt_s h e = e from if_pos z, RA 8 e e0 e1, sg_t_h (e := e) (by omega) (by omega)]
    · obtain ⟨s1, s2⟩ := sg_S0 (q := e - h) h5 r0 r1 (by omega) (by omega)
      have t := sg_t_r (q := e - h) r0 r1 (by omega) (by omega)
      have p := sg_t_p (h := h) (r := r) (e := e - h)
      rw [show h + (e - h) = e by omega] at p s2
      rw [show mt_s h e = 2 * h + e from if_neg z, mo_B2 (by omega) e0 (by omega) (by omega), s2, RA 7 _ (by omega) (by omega), p]
  · rw [if_neg hu]
    have RA1 : ∀ (n : Nat) (e : Int), 0 ≤ e → e < 2 * h → a e ≠ h + r → a e ≠ h + r + 1 → mt_e h (mt_out h a (mt_sgn h r u) (n + 2) e) = a e := fun n e e0 e1 n1 n2 => by
      obtain ⟨m1, m2, m3, m4⟩ := ha e e0 e1
      by_cases z : a e < h
      · rw [mo_A1 e1 z, mo_e0 z]
      · obtain ⟨s1, s2⟩ := (sg_S1 (q := a e - h) h5 hu r0 r1 (by omega) (by omega)).2.2 (by omega) (by omega)
        rw [mo_A2 (by omega) e1 (by omega) m2, mo_B1 (by omega) (by rw [s1]; omega), s1, mo_e1 (by omega)]
        omega
    obtain ⟨x1, x2, x3, x4⟩ := ha (h + r) (by omega) (by omega)
    obtain ⟨y1, y2, y3, y4⟩ := ha (h + r + 1) (by omega) (by omega)
    obtain ⟨t1, t2⟩ := (sg_S1 (q := r) h5 hu r0 r1 (by omega) (by omega)).1 rfl
    obtain ⟨t3, t4⟩ := (sg_S1 (q := r + 1) h5 hu r0 r1 (by omega) (by omega)).2.1 rfl
    have RA : ∀ (n : Nat) (e : Int), 0 ≤ e → e < 2 * h → e ≠ h + r → e ≠ h + r + 1 → mt_e h (mt_out h a (mt_sgn h r u) (n + 4) e) = if a e = h + r then a (h + r + 1) else if a e = h + r + 1 then a (h + r) else a e := fun n e e0 e1 n1 n2 => by
      obtain ⟨m1, m2, m3, m4⟩ := ha e e0 e1
      by_cases z : a e = h + r
      · rw [if_pos z, mo_A2 (by omega) e1 (by omega) m2, z, show h + r - h = r by omega, mo_B2 (by omega) r0 (by omega) (by omega), t1, show h + (r + 1) = h + r + 1 by omega]
        refine RA1 n _ (by omega) (by omega) (fun c => ?_) y4
        rw [z] at m3
        rw [c, m3] at y3
        exact n2 y3
      · rw [if_neg z]
        by_cases z2 : a e = h + r + 1
        · rw [if_pos z2, mo_A2 (by omega) e1 (by omega) m2, z2, show h + r + 1 - h = r + 1 by omega, mo_B2 (by omega) (by omega) (by omega) (by omega), t3]
          refine RA1 n _ (by omega) (by omega) x4 (fun c => ?_)
          rw [z2] at m3
          rw [c, m3] at x3
          exact n1 x3
        · rw [if_neg z2]; exact RA1 (n + 2) e e0 e1 z z2
    by_cases z : e < h
    · rw [if_neg (c := e = h + r) (by omega), if_neg (c := e = h + r + 1) (by omega), show mt_s h e = e from if_pos z]
      exact RA 6 e e0 e1 (by omega) (by omega)
    · rw [show mt_s h e = 2 * h + e from if_neg z]
      by_cases zx : e = h + r
      · rw [if_pos zx, zx, mo_B1 (by omega) (by omega), t2, mo_e1 (by omega)]; omega
      · rw [if_neg zx]
        by_cases zy : e = h + r + 1
        · rw [if_pos zy, zy]
          rw [show h + (r + 1) = h + r + 1 by omega] at t4
          rw [mo_B1 (by omega) (by omega), t4, mo_e1 (by omega)]; omega
        · obtain ⟨s1, s2⟩ := (sg_S1 (q := e - h) h5 hu r0 r1 (by omega) (by omega)).2.2 (by omega) (by omega)
          rw [show h + (e - h) = e by omega] at s2
          rw [if_neg zy, mo_B2 (by omega) e0 (by omega) (by omega), s2, show h + (e - h) = e by omega]
          exact RA 5 e e0 e1 zx zy
theorem sg_l {h r u e : Int} {a : Int → Int} (h2 : 2 ≤ h) (h5 : h ≤ 5) (ha : mt_M h a) (r0 : 0 ≤ r) (r1 : r + 2 ≤ h) (e0 : 0 ≤ e) (e1 : e < 2 * h) : mt_prod h (mt_sgn h r u) a e = sg_f u r (r + 1) a e := by
  unfold mt_prod sg_f
  by_cases hu : u = 0
  · subst hu
    rw [if_pos rfl]
    have LB : ∀ (n : Nat) (q : Int), 0 ≤ q → q < 2 * h → mt_e h (mt_out h (mt_sgn h r 0) a (n + 2) (2 * h + q)) = sg_t r (r + 1) (a q) := fun n q q0 q1 => by
      obtain ⟨m1, m2, m3, m4⟩ := ha q q0 q1
      by_cases z : a q < h
      · obtain ⟨s1, s2⟩ := sg_S0 (q := a q) h5 r0 r1 (by omega) (by omega)
        have t := sg_t_r (q := a q) r0 r1 (by omega) (by omega)
        rw [mo_B2 (by omega) q0 m1 z, mo_A1 (by omega) (by rw [s2]; omega), s2, mo_e0 t.2]
      · rw [mo_B1 q0 (by omega), mo_e1 (by omega), sg_t_h (by omega) (by omega)]; omega
    by_cases z : e < h
    · obtain ⟨s1, s2⟩ := sg_S0 (q := e) h5 r0 r1 (by omega) (by omega)
      have t := sg_t_r (q := e) r0 r1 (by omega) (by omega)
      rw [show mt_s h e = e from if_pos z, mo_A2 (by omega) e1 (by omega) (by omega), s1, show h + sg_t r (r + 1) e - h = sg_t r (r + 1) e by omega]
      exact LB 7 _ (by omega) (by omega)
    · rw [show mt_s h e = 2 * h + e from if_neg z, LB 8 e e0 e1, sg_t_h (e := e) (by omega) (by omega)]
  · rw [if_neg hu]
    have LB1 : ∀ (n : Nat) (q : Int), 0 ≤ q → q < 2 * h → a q ≠ r → a q ≠ r + 1 → mt_e h (mt_out h (mt_sgn h r u) a (n + 2) (2 * h + q)) = a q := fun n q q0 q1 n1 n2 => by
      obtain ⟨m1, m2, m3, m4⟩ := ha q q0 q1
      by_cases z : a q < h
      · obtain ⟨s1, s2⟩ := (sg_S1 (q := a q) h5 hu r0 r1 (by omega) (by omega)).2.2 n1 n2
        rw [mo_B2 (by omega) q0 m1 z, mo_A1 (by omega) (by omega), s2, mo_e0 z]
      · rw [mo_B1 q0 (by omega), mo_e1 (by omega)]; omega
    obtain ⟨x1, x2, x3, x4⟩ := ha r (by omega) (by omega)
    obtain ⟨y1, y2, y3, y4⟩ := ha (r + 1) (by omega) (by omega)
    obtain ⟨t1, t2⟩ := (sg_S1 (q := r) h5 hu r0 r1 (by omega) (by omega)).1 rfl
    obtain ⟨t3, t4⟩ := (sg_S1 (q := r + 1) h5 hu r0 r1 (by omega) (by omega)).2.1 rfl
    have LB : ∀ (n : Nat) (q : Int), 0 ≤ q → q < 2 * h → q ≠ r → q ≠ r + 1 → mt_e h (mt_out h (mt_sgn h r u) a (n + 4) (2 * h + q)) = if a q = r then a (r + 1) else if a q = r + 1 then a r else a q := fun n q q0 q1 n1 n2 => by
      obtain ⟨m1, m2, m3, m4⟩ := ha q q0 q1
      by_cases z : a q = r
      · rw [if_pos z, mo_B2 (by omega) q0 m1 (by omega), z, mo_A2 (by omega) (by omega) (by omega) (by omega), t2, show h + r + 1 - h = r + 1 by omega]
        refine LB1 n _ (by omega) (by omega) (fun c => ?_) y4
        rw [z] at m3
        rw [c, m3] at y3
        exact n2 y3
      · rw [if_neg z]
        by_cases z2 : a q = r + 1
        · rw [if_pos z2, mo_B2 (by omega) q0 m1 (by omega), z2, mo_A2 (by omega) (by omega) (by omega) (by omega), t4, show h + r - h = r by omega]
          refine LB1 n _ (by omega) (by omega) x4 (fun c => ?_)
          rw [z2] at m3
          rw [c, m3] at x3
          exact n1 x3
        · rw [if_neg z2]; exact LB1 (n + 2) q q0 q1 z z2
    by_cases z : e < h
    · rw [show mt_s h e = e from if_pos z]
      by_cases zx : e = r
      · rw [if_pos zx, zx, mo_A1 (by omega) (by omega), t1, mo_e0 (by omega)]
      · rw [if_neg zx]
        by_cases zy : e = r + 1
        · rw [if_pos zy, zy, mo_A1 (by omega) (by omega), t3, mo_e0 (by omega)]
        · obtain ⟨s1, s2⟩ := (sg_S1 (q := e) h5 hu r0 r1 (by omega) (by omega)).2.2 zx zy
          rw [if_neg zy, mo_A2 (by omega) e1 (by omega) (by omega), s1, show h + e - h = e by omega]
          exact LB 5 e e0 e1 zx zy
    · rw [if_neg (c := e = r) (by omega), if_neg (c := e = r + 1) (by omega), show mt_s h e = 2 * h + e from if_neg z]
      exact LB 6 e e0 e1 (by omega) (by omega)
/-! signs at different ends: their order doesn't matter -/
def sg_k (u x y : Int) (f : Int → Int) : Int := if u ≠ 0 ∧ f x = y then 1 else 0
def sg_d (x y z w : Int) : Prop := x ≠ y ∧ z ≠ w ∧ x ≠ z ∧ x ≠ w ∧ y ≠ z ∧ y ≠ w
theorem sg_tt {x y z w e : Int} (d : sg_d x y z w) : sg_t x y (sg_t z w e) = sg_t z w (sg_t x y e) := by
  obtain ⟨d1, d2, d3, d4, d5, d6⟩ := d
  unfold sg_t
  repeat' split
  all_goals omega
theorem sg_ti {x y e : Int} (d : x ≠ y) : sg_t x y (sg_t x y e) = e := by
  unfold sg_t
  repeat' split
  all_goals omega
theorem sg_c01 {v x y z w e : Int} {f : Int → Int} (hv : v ≠ 0) (d : sg_d x y z w) : sg_f 0 x y (sg_f v z w f) e = sg_f v z w (sg_f 0 x y f) e := by
  have d' := d
  obtain ⟨d1, d2, d3, d4, d5, d6⟩ := d
  have g : ∀ e, sg_f 0 x y f e = sg_t x y (f (sg_t x y e)) := fun e => if_pos rfl
  have g2 : sg_f 0 x y (sg_f v z w f) e = sg_t x y (sg_f v z w f (sg_t x y e)) := if_pos rfl
  have k : ∀ F : Int → Int, ∀ e, sg_f v z w F e = if e = z then w else if e = w then z else if F e = z then F w else if F e = w then F z else F e := fun F e => if_neg hv
  have tz : sg_t x y z = z := sg_t_h (by omega) (by omega)
  have tw : sg_t x y w = w := sg_t_h (by omega) (by omega)
  have inj : ∀ p q, sg_t x y p = q ↔ p = sg_t x y q := fun p q => ⟨fun h => by rw [← h, sg_ti d1], fun h => by rw [h, sg_ti d1]⟩
  rw [g2, k, k, g e, g z, g w, tz, tw]
  have i1 : sg_t x y e = z ↔ e = z := by rw [inj, tz]
  have i2 : sg_t x y e = w ↔ e = w := by rw [inj, tw]
  have i3 : sg_t x y (f (sg_t x y e)) = z ↔ f (sg_t x y e) = z := by rw [inj, tz]
  have i4 : sg_t x y (f (sg_t x y e)) = w ↔ f (sg_t x y e) = w := by rw [inj, tw]
  simp only [i1, i2, i3, i4]
  by_cases z1 : e = z
  · rw [if_pos z1, if_pos z1, tw]
  · rw [if_neg z1, if_neg z1]
    by_cases z2 : e = w
    · rw [if_pos z2, if_pos z2, tz]
    · rw [if_neg z2, if_neg z2]
      by_cases z3 : f (sg_t x y e) = z
      · rw [if_pos z3, if_pos z3]
      · rw [if_neg z3, if_neg z3]
        by_cases z4 : f (sg_t x y e) = w
        · rw [if_pos z4, if_pos z4]
        · rw [if_neg z4, if_neg z4]
theorem sg_d_s {x y z w : Int} (d : sg_d x y z w) : sg_d z w x y := by
  obtain ⟨d1, d2, d3, d4, d5, d6⟩ := d
  exact ⟨d2, d1, fun e => d3 e.symm, fun e => d5 e.symm, fun e => d4 e.symm, fun e => d6 e.symm⟩
theorem sg_fx {u x y : Int} {f : Int → Int} (hu : u ≠ 0) : sg_f u x y f x = y := by unfold sg_f; rw [if_neg hu, if_pos rfl]
theorem sg_fy {u x y : Int} {f : Int → Int} (hu : u ≠ 0) (d : x ≠ y) : sg_f u x y f y = x := by unfold sg_f; rw [if_neg hu, if_neg (fun c => d c.symm), if_pos rfl]
theorem sg_fn {u x y p : Int} {f : Int → Int} (hu : u ≠ 0) (a : p ≠ x) (b : p ≠ y) : sg_f u x y f p = if f p = x then f y else if f p = y then f x else f p := by unfold sg_f; rw [if_neg hu, if_neg a, if_neg b]
/-- f leads from e to x -/
theorem sg_c11a {u v x y z w e n : Int} {f : Int → Int} (hu : u ≠ 0) (hv : v ≠ 0) (d : sg_d x y z w) (hf : ∀ e, 0 ≤ e → e < n → f (f e) = e ∧ f e ≠ e) (x0 : 0 ≤ x ∧ x < n) (y0 : 0 ≤ y ∧ y < n) (z0 : 0 ≤ z ∧ z < n) (w0 : 0 ≤ w ∧ w < n) (e0 : 0 ≤ e ∧ e < n) (q1 : e ≠ x) (q2 : e ≠ y) (q3 : e ≠ z) (q4 : e ≠ w) (p1 : f e = x ∨ f e = y) : sg_f u x y (sg_f v z w f) e = sg_f v z w (sg_f u x y f) e := by
  obtain ⟨d1, d2, d3, d4, d5, d6⟩ := d
  have iv : ∀ p q, (0 ≤ p ∧ p < n) → f p = q → f q = p := fun p q hp h => by have := (hf p hp.1 hp.2).1; rw [h] at this; exact this
  have g1 : f w = x → f x = w := iv w x w0
  have g2 : f w = y → f y = w := iv w y w0
  have g3 : f z = x → f x = z := iv z x z0
  have g4 : f z = y → f y = z := iv z y z0
  have g5 : f e = x → f x = e := iv e x e0
  have g6 : f e = y → f y = e := iv e y e0
  have c1 : f y = z → f z = y := iv y z y0
  have c2 : f y = w → f w = y := iv y w y0
  have c3 : f x = z → f z = x := iv x z x0
  have c4 : f x = w → f w = x := iv x w x0
  rw [sg_fn hu q1 q2, sg_fn hv q3 q4, sg_fn hv q3 q4, sg_fn hu q1 q2, sg_fn hv d3 d4, sg_fn hv d5 d6, sg_fn hu (fun c => d3 c.symm) (fun c => d5 c.symm), sg_fn hu (fun c => d4 c.symm) (fun c => d6 c.symm)]
  clear iv hf
  generalize f e = fe at *
  generalize f x = fx at *
  generalize f y = fy at *
  generalize f z = fz at *
  generalize f w = fw at *
  rcases p1 with p1 | p1
  · have e1 := g5 p1
    rw [if_neg (c := fe = z) (fun c => d3 (p1.symm.trans c)), if_neg (c := fe = w) (fun c => d4 (p1.symm.trans c)), if_pos p1, if_pos p1]
    by_cases h1 : fy = z
    · rw [if_pos h1, if_pos h1, if_neg (c := fw = x) (fun c => q4 (e1.symm.trans (g1 c))), if_neg (c := fw = y) (fun c => d2 (h1.symm.trans (g2 c)))]
    · rw [if_neg h1, if_neg h1]
      by_cases h2 : fy = w
      · rw [if_pos h2, if_pos h2, if_neg (c := fz = x) (fun c => q3 (e1.symm.trans (g3 c))), if_neg (c := fz = y) (fun c => h1 (g4 c))]
      · rw [if_neg h2, if_neg h2]
  · have e1 := g6 p1
    have nx : ¬ fe = x := fun c => d1 (c.symm.trans p1)
    rw [if_neg (c := fe = z) (fun c => d5 (p1.symm.trans c)), if_neg (c := fe = w) (fun c => d6 (p1.symm.trans c)), if_neg nx, if_pos p1, if_neg nx, if_pos p1]
    by_cases h1 : fx = z
    · rw [if_pos h1, if_pos h1, if_neg (c := fw = x) (fun c => d2 (h1.symm.trans (g1 c))), if_neg (c := fw = y) (fun c => q4 (e1.symm.trans (g2 c)))]
    · rw [if_neg h1, if_neg h1]
      by_cases h2 : fx = w
      · rw [if_pos h2, if_pos h2, if_neg (c := fz = x) (fun c => h1 (g3 c)), if_neg (c := fz = y) (fun c => q3 (e1.symm.trans (g4 c)))]
      · rw [if_neg h2, if_neg h2]
theorem sg_c11 {u v x y z w e n : Int} {f : Int → Int} (hu : u ≠ 0) (hv : v ≠ 0) (d : sg_d x y z w) (hf : ∀ e, 0 ≤ e → e < n → f (f e) = e ∧ f e ≠ e) (x0 : 0 ≤ x ∧ x < n) (y0 : 0 ≤ y ∧ y < n) (z0 : 0 ≤ z ∧ z < n) (w0 : 0 ≤ w ∧ w < n) (e0 : 0 ≤ e ∧ e < n) : sg_f u x y (sg_f v z w f) e = sg_f v z w (sg_f u x y f) e := by
  have dd := d
  obtain ⟨d1, d2, d3, d4, d5, d6⟩ := d
  by_cases q1 : e = x
  · rw [q1, sg_fx hu, sg_fn hv d3 d4, sg_fx hu, if_neg d5, if_neg d6]
  by_cases q2 : e = y
  · rw [q2, sg_fy hu d1, sg_fn hv d5 d6, sg_fy hu d1, if_neg d3, if_neg d4]
  by_cases q3 : e = z
  · rw [q3, sg_fx hv, sg_fn hu (fun c => d3 c.symm) (fun c => d5 c.symm), sg_fx hv, if_neg (fun c => d4 c.symm), if_neg (fun c => d6 c.symm)]
  by_cases q4 : e = w
  · rw [q4, sg_fy hv d2, sg_fn hu (fun c => d4 c.symm) (fun c => d6 c.symm), sg_fy hv d2, if_neg (fun c => d3 c.symm), if_neg (fun c => d5 c.symm)]
  by_cases p1 : f e = x ∨ f e = y
  · exact sg_c11a hu hv dd hf x0 y0 z0 w0 e0 q1 q2 q3 q4 p1
  by_cases p2 : f e = z ∨ f e = w
  · exact (sg_c11a hv hu (sg_d_s dd) hf z0 w0 x0 y0 e0 q3 q4 q1 q2 p2).symm
  rw [sg_fn hu q1 q2, sg_fn hv q3 q4, sg_fn hv q3 q4, sg_fn hu q1 q2]
  have n1 : ¬ f e = x := fun c => p1 (Or.inl c)
  have n2 : ¬ f e = y := fun c => p1 (Or.inr c)
  have n3 : ¬ f e = z := fun c => p2 (Or.inl c)
  have n4 : ¬ f e = w := fun c => p2 (Or.inr c)
  simp only [if_neg n1, if_neg n2, if_neg n3, if_neg n4]
theorem sg_c {u v x y z w e n : Int} {f : Int → Int} (d : sg_d x y z w) (hf : ∀ e, 0 ≤ e → e < n → f (f e) = e ∧ f e ≠ e) (x0 : 0 ≤ x ∧ x < n) (y0 : 0 ≤ y ∧ y < n) (z0 : 0 ≤ z ∧ z < n) (w0 : 0 ≤ w ∧ w < n) (e0 : 0 ≤ e ∧ e < n) : sg_f u x y (sg_f v z w f) e = sg_f v z w (sg_f u x y f) e := by
  by_cases hu : u = 0
  · subst hu
    by_cases hv : v = 0
    · subst hv
      have g : ∀ (x y : Int) (F : Int → Int) (e : Int), sg_f 0 x y F e = sg_t x y (F (sg_t x y e)) := fun x y F e => if_pos rfl
      rw [g x y, g z w, g z w, g x y, sg_tt d, sg_tt (sg_d_s d) (e := e)]
    · exact sg_c01 hv d
  · by_cases hv : v = 0
    · subst hv; exact (sg_c01 hu (sg_d_s d)).symm
    · exact sg_c11 hu hv d hf x0 y0 z0 w0 e0
theorem sg_kc {u v x y z w n : Int} {f : Int → Int} (d : sg_d x y z w) (hf : ∀ e, 0 ≤ e → e < n → f (f e) = e ∧ f e ≠ e) (x0 : 0 ≤ x ∧ x < n) (y0 : 0 ≤ y ∧ y < n) (z0 : 0 ≤ z ∧ z < n) (w0 : 0 ≤ w ∧ w < n) : sg_k u x y f + sg_k v z w (sg_f u x y f) = sg_k v z w f + sg_k u x y (sg_f v z w f) := by
  have dd := d
  obtain ⟨d1, d2, d3, d4, d5, d6⟩ := d
  have iv : ∀ p q, (0 ≤ p ∧ p < n) → f p = q → f q = p := fun p q hp h => by have := (hf p hp.1 hp.2).1; rw [h] at this; exact this
  have K0 : ∀ (x y : Int) (f : Int → Int), sg_k 0 x y f = 0 := fun x y f => if_neg (fun c => c.1 rfl)
  have K1 : ∀ (u x y : Int) (f : Int → Int), u ≠ 0 → sg_k u x y f = if f x = y then 1 else 0 := fun u x y f hu => by
    unfold sg_k
    by_cases z : f x = y
    · rw [if_pos ⟨hu, z⟩, if_pos z]
    · rw [if_neg (fun c => z c.2), if_neg z]
  have C0 : ∀ (u x y z w : Int), sg_d x y z w → sg_k u z w (sg_f 0 x y f) = sg_k u z w f := fun u x y z w d => by
    obtain ⟨d1, d2, d3, d4, d5, d6⟩ := d
    have g : sg_f 0 x y f z = sg_t x y (f (sg_t x y z)) := if_pos rfl
    have i : sg_t x y (f z) = w ↔ f z = w := ⟨fun h => by rw [← sg_ti (e := f z) d1, h, sg_t_h (fun c => d4 c.symm) (fun c => d6 c.symm)], fun h => by rw [h, sg_t_h (fun c => d4 c.symm) (fun c => d6 c.symm)]⟩
    unfold sg_k
    rw [g, sg_t_h (e := z) (fun c => d3 c.symm) (fun c => d5 c.symm)]
    simp only [i]
  by_cases hu : u = 0
  · subst hu
    rw [K0, C0 v x y z w dd, K0]; omega
  · by_cases hv : v = 0
    · subst hv
      rw [K0, C0 u z w x y (sg_d_s dd), K0]; omega
    · rw [K1 u x y f hu, K1 v z w _ hv, K1 v z w f hv, K1 u x y _ hu, sg_fn hu (fun c => d3 c.symm) (fun c => d5 c.symm), sg_fn hv d3 d4]
      have a1 := iv x y x0
      have a2 := iv x z x0
      have a3 := iv x w x0
      have b1 := iv y x y0
      have b2 := iv y z y0
      have b3 := iv y w y0
      have c1 := iv z x z0
      have c2 := iv z y z0
      have c3 := iv z w z0
      have e1 := iv w x w0
      have e2 := iv w y w0
      have e3 := iv w z w0
      clear iv hf K0 K1 C0 dd
      generalize f x = fx at *
      generalize f y = fy at *
      generalize f z = fz at *
      generalize f w = fw at *
      by_cases q1 : fz = x
      · have := c1 q1
        rw [if_pos q1, if_neg (c := fz = w) (by omega), if_neg (c := fx = y) (by omega), if_pos this]
        by_cases q2 : fy = w
        · have := b3 q2; rw [if_pos q2, if_pos this]
        · rw [if_neg q2, if_neg (fun c => q2 (e2 c))]
      · rw [if_neg q1]
        by_cases q2 : fz = y
        · have := c2 q2
          rw [if_pos q2, if_neg (c := fz = w) (by omega), if_neg (c := fx = y) (fun c => by have := a1 c; omega), if_neg (c := fx = z) (fun c => q1 (a2 c))]
          by_cases q3 : fx = w
          · simp only [if_pos q3, if_pos q2]
          · have ny : ¬ fx = y := fun c => by have := a1 c; omega
            simp only [if_neg q3, if_neg ny]
        · rw [if_neg q2, if_neg (c := fx = z) (fun c => q1 (a2 c))]
          by_cases q3 : fx = w
          · rw [if_pos q3, if_neg (c := fz = y) q2]
            have := a3 q3
            rw [if_neg (c := fx = y) (by omega)]
            by_cases q4 : fz = w
            · rw [if_pos q4]; omega
            · rw [if_neg q4]
          · rw [if_neg q3]; omega
/-! a sign behind or before a matching: how many loops -/
theorem mo_hit {h r : Int} {a b : Int → Int} (ha : mt_M h a) (hb : mt_M h b) (r0 : 0 ≤ r) (r1 : r + 2 ≤ h) (xa : a (h + r) = h + r + 1) (xb : b r = r + 1) : ∀ (n : Nat) (x : Int), mt_all h x → ¬ (x = h + r ∨ x = h + r + 1 ∨ x = 2 * h + r ∨ x = 2 * h + r + 1) → ¬ mt_hit h a b n x r ∧ ¬ mt_hit h a b n x (r + 1) := by
  have ya : a (h + r + 1) = h + r := by rw [← xa]; exact (ha (h + r) (by omega) (by omega)).2.2.1
  have yb : b (r + 1) = r := by rw [← xb]; exact (hb r r0 (by omega)).2.2.1
  have p1 : mt_P h a b (h + r) = h + r + 1 := by unfold mt_P; rw [if_pos (by omega)]; exact xa
  have p2 : mt_P h a b (h + r + 1) = h + r := by unfold mt_P; rw [if_pos (by omega)]; exact ya
  have p3 : mt_P h a b (2 * h + r) = 2 * h + r + 1 := by unfold mt_P; rw [if_neg (by omega), show 2 * h + r - 2 * h = r by omega, xb]; omega
  have p4 : mt_P h a b (2 * h + r + 1) = 2 * h + r := by unfold mt_P; rw [if_neg (by omega), show 2 * h + r + 1 - 2 * h = r + 1 by omega, yb]
  intro n
  induction n with
  | zero => intro x _ _; exact ⟨fun c => c, fun c => c⟩
  | succ n ih =>
    intro x hx nx
    obtain ⟨q1, q2, q3⟩ := mt_P_inv ha hb hx
    have np : ¬ (mt_P h a b x = h + r ∨ mt_P h a b x = h + r + 1 ∨ mt_P h a b x = 2 * h + r ∨ mt_P h a b x = 2 * h + r + 1) := fun c => by
      rcases c with c | c | c | c <;> rw [c] at q2 <;> omega
    generalize hy : mt_P h a b x = y at *
    have nj : mt_in h y → mt_all h (mt_J h y) ∧ ¬ (mt_J h y = h + r ∨ mt_J h y = h + r + 1 ∨ mt_J h y = 2 * h + r ∨ mt_J h y = 2 * h + r + 1) := fun hin => by
      refine ⟨mt_in_all (mt_J_inv hin).1, ?_⟩
      have hin : h ≤ y ∧ y < 3 * h := hin
      unfold mt_J
      split <;> omega
    have rl : mt_in h y → mt_rl h y ≠ r ∧ mt_rl h y ≠ r + 1 := fun hin => by
      have hin : h ≤ y ∧ y < 3 * h := hin
      unfold mt_rl
      constructor <;> split <;> omega
    constructor
    · intro c
      rw [mt_hit_s, hy] at c
      rcases c.2 with z | z
      · exact (rl c.1).1 z
      · exact (ih _ (nj c.1).1 (nj c.1).2).1 z
    · intro c
      rw [mt_hit_s, hy] at c
      rcases c.2 with z | z
      · exact (rl c.1).2 z
      · exact (ih _ (nj c.1).1 (nj c.1).2).2 z
theorem mo_L {h r : Int} {a b : Int → Int} (h2 : 2 ≤ h) (h5 : h ≤ 5) (ha : mt_M h a) (hb : mt_M h b) (r0 : 0 ≤ r) (r1 : r + 2 ≤ h) (H : ∀ q, 0 ≤ q → q < h → q ≠ r → q ≠ r + 1 → h ≤ b q ∨ a (q + h) < h) : mt_both h a b 20 = w64 (w64 (a 20 + b 20) + if a (h + r) = h + r + 1 ∧ b r = r + 1 then 1 else 0) := by
  have e20 : mt_both h a b 20 = (mt_rs h a b h.toNat).2.1 := by unfold mt_both; rw [if_neg (by omega), if_neg (by omega), if_pos rfl]
  have C := mt_mm_C (by omega) h5 ha hb
  obtain ⟨B1, B2⟩ := mt_mm_bit (a := a) (b := b) h5 (2 * h).toNat
  have i0 : mt_rs h a b 0 = (mt_mm h a b (2 * h).toNat, w64 (a 20 + b 20), max (a 21) (b 21), w64 (a 22 + b 22)) := rfl
  generalize hm : mt_mm h a b (2 * h).toNat = m0 at *
  have U : ∀ q, 0 ≤ q → q < h → mb_t m0 q = 0 → q = r ∨ q = r + 1 := fun q q0 q1 z => by
    obtain ⟨⟨c1, c2⟩, c3, c4⟩ := C.2 q q0 q1 z
    by_cases z1 : q = r
    · exact Or.inl z1
    · by_cases z2 : q = r + 1
      · exact Or.inr z2
      · have := H q q0 q1 z1 z2; omega
  have st : ∀ n : Nat, mt_rs h a b (n + 1) = if mb_t (mt_rs h a b n).1 n = 0 then (b_or (mt_rs h a b n).1 (mt_rg h a b n).1, w64 ((mt_rs h a b n).2.1 + 1), max (mt_rs h a b n).2.2.1 (mt_rg h a b n).2.1, w64 ((mt_rs h a b n).2.2.2 + (mt_rg h a b n).2.1)) else mt_rs h a b n := fun n => rfl
  rw [e20]
  by_cases X : a (h + r) = h + r + 1 ∧ b r = r + 1
  · rw [if_pos X]
    obtain ⟨xa, xb⟩ := X
    have ya : a (h + r + 1) = h + r := by rw [← xa]; exact (ha (h + r) (by omega) (by omega)).2.2.1
    have un : mb_t m0 r = 0 := by
      rcases mb_t_01 m0 r with z | z
      · exact z
      · obtain ⟨e, he, hit⟩ := (B2 r r0 (by omega)).1 z
        obtain ⟨s1, s2, s3⟩ := mt_s_all (h := h) (e := e) (by omega) (by omega)
        have s2 : ¬ (h ≤ mt_s h e ∧ mt_s h e < 3 * h) := s2
        exact absurd hit (mo_hit ha hb r0 r1 xa xb 10 (mt_s h e) s1 (by omega)).1
    have rg : (mt_rg h a b r).1 = b_or 0 (b_or (b_shl 1 (r + 1)) (b_shl 1 r)) := by
      have e1 : mt_r1 h a b 0 0 r = (b_or 0 (b_or (b_shl 1 (b r)) (b_shl 1 (a (b r + h) - h))), w64 (0 + w64 (b (10 + r) + a (10 + (b r + h)))), a (b r + h) - h) := rfl
      have e2 : a (b r + h) - h = r := by rw [xb, show r + 1 + h = h + r + 1 by omega, ya]; omega
      unfold mt_rg
      rw [if_pos (by rw [e1]; exact e2), e1, e2, xb]
    obtain ⟨k1, k2⟩ := mb_shl_m (k := 5) (r := r) (by omega) r0 (by omega)
    obtain ⟨k3, k4⟩ := mb_shl_m (k := 5) (r := r + 1) (by omega) (by omega) (by omega)
    obtain ⟨k5, k6⟩ := mb_or_m (k := 5) (by omega) k3 k1
    obtain ⟨k7, k8⟩ := mb_or_m (k := 5) (a := 0) (by omega) ⟨by omega, by omega⟩ k5
    obtain ⟨k9, k10⟩ := mb_or_m (k := 5) (by omega) B1 k7
    have K : ∀ n : Nat, (n : Int) ≤ h → ((n : Int) ≤ r → (mt_rs h a b n).1 = m0 ∧ (mt_rs h a b n).2.1 = w64 (a 20 + b 20)) ∧ (r < n → (mt_rs h a b n).1 = b_or m0 (mt_rg h a b r).1 ∧ (mt_rs h a b n).2.1 = w64 (w64 (a 20 + b 20) + 1)) := by
      intro n
      induction n with
      | zero => intro _; rw [i0]; exact ⟨fun _ => ⟨rfl, rfl⟩, fun z => by omega⟩
      | succ n ih =>
        intro hn
        obtain ⟨i1, i2⟩ := ih (by omega)
        rw [st n]
        by_cases z : (n : Int) ≤ r
        · obtain ⟨i1, i3⟩ := i1 z
          by_cases z2 : (n : Int) = r
          · rw [i1, z2, if_pos un, i3]
            exact ⟨fun c => by omega, fun _ => ⟨rfl, rfl⟩⟩
          · have : mb_t m0 n ≠ 0 := fun c => by have := U n (by omega) (by omega) c; omega
            rw [i1, if_neg this]
            exact ⟨fun _ => ⟨i1, i3⟩, fun c => by omega⟩
        · obtain ⟨i1, i3⟩ := i2 (by omega)
          have : mb_t (b_or m0 (mt_rg h a b r).1) n = 1 := by
            rw [rg, k10 n (by omega) (by omega), if_pos]
            by_cases z2 : (n : Int) = r + 1
            · right
              rw [k8 n (by omega) (by omega), if_pos]
              right
              rw [k6 n (by omega) (by omega), if_pos]
              left
              rw [k4 n (by omega) (by omega), if_pos z2]
            · left
              rcases mb_t_01 m0 n with y | y
              · have := U n (by omega) (by omega) y; omega
              · exact y
          rw [i1, if_neg (by omega)]
          exact ⟨fun c => by omega, fun _ => ⟨i1, i3⟩⟩
    exact ((K h.toNat (by omega)).2 (by omega)).2
  · rw [if_neg X]
    have all1 : ∀ q, 0 ≤ q → q < h → mb_t m0 q ≠ 0 := fun q q0 q1 z => by
      have uq := U q q0 q1 z
      obtain ⟨⟨c1, c2⟩, c3, c4⟩ := C.2 q q0 q1 z
      obtain ⟨b1, b2, b3, b4⟩ := hb q q0 (by omega)
      obtain ⟨a1, a2, a3, a4⟩ := ha (q + h) (by omega) (by omega)
      have ub := U (b q) b1 c1 c2
      have ua := U (a (q + h) - h) (by omega) (by omega) c4
      rcases uq with uq | uq
      · subst uq
        have e1 : b q = q + 1 := by omega
        have e2 : a (q + h) = q + h + 1 := by omega
        exact X ⟨by rw [show h + q = q + h by omega, e2], e1⟩
      · subst uq
        have e1 : b (r + 1) = r := by omega
        have e2 : a (r + 1 + h) = h + r := by omega
        rw [e1] at b3
        rw [e2] at a3
        exact X ⟨by rw [a3]; omega, b3⟩
    have K : ∀ n : Nat, (n : Int) ≤ h → mt_rs h a b n = mt_rs h a b 0 := by
      intro n
      induction n with
      | zero => intro _; rfl
      | succ n ih =>
        intro hn
        have i := ih (by omega)
        rw [st n, i, if_neg (by rw [i0]; exact all1 n (by omega) (by omega))]
    rw [K h.toNat (by omega), i0]
    show w64 (a 20 + b 20) = w64 (w64 (a 20 + b 20) + 0)
    rw [w64_al, Int.add_zero]
theorem sg_20 {h r u : Int} : mt_sgn h r u 20 = 0 := by
  unfold mt_sgn
  rw [if_neg (by omega), if_neg (by omega), if_neg (by omega), if_neg (by omega), if_neg (by omega)]
theorem sg_r20 {h r u : Int} {a : Int → Int} (h2 : 2 ≤ h) (h5 : h ≤ 5) (ha : mt_M h a) (r0 : 0 ≤ r) (r1 : r + 2 ≤ h) (l0 : 0 ≤ a 20) (l1 : a 20 ≤ 1000) : mt_both h a (mt_sgn h r u) 20 = a 20 + sg_k u (h + r) (h + r + 1) a := by
  rw [mo_L h2 h5 ha (mt_sgn_M h5 r0 r1) r0 r1 (fun q q0 q1 n1 n2 => ?_), sg_20, Int.add_zero, w64_id (x := a 20) ⟨by omega, by omega⟩]
  · have : (if a (h + r) = h + r + 1 ∧ mt_sgn h r u r = r + 1 then 1 else 0) = sg_k u (h + r) (h + r + 1) a := by
      unfold sg_k
      by_cases hu : u = 0
      · subst hu
        have := (sg_S0 (q := r) h5 r0 r1 r0 (by omega)).1
        have t := sg_t_r (q := r) r0 r1 r0 (by omega)
        rw [if_neg (fun c => by have := c.2; omega), if_neg (fun c => c.1 rfl)]
      · have := ((sg_S1 (q := r) h5 hu r0 r1 r0 (by omega)).1 rfl).1
        by_cases z : a (h + r) = h + r + 1
        · rw [if_pos ⟨z, this⟩, if_pos ⟨hu, z⟩]
        · rw [if_neg (fun c => z c.1), if_neg (fun c => z c.2)]
    rw [this]
    have : 0 ≤ sg_k u (h + r) (h + r + 1) a ∧ sg_k u (h + r) (h + r + 1) a ≤ 1 := by unfold sg_k; split <;> omega
    exact w64_id ⟨by omega, by omega⟩
  · left
    by_cases hu : u = 0
    · subst hu
      have := (sg_S0 (q := q) h5 r0 r1 q0 q1).1
      have t := sg_t_r (q := q) r0 r1 q0 q1
      omega
    · have := ((sg_S1 (q := q) h5 hu r0 r1 q0 q1).2.2 n1 n2).1
      omega
theorem sg_l20 {h r u : Int} {a : Int → Int} (h2 : 2 ≤ h) (h5 : h ≤ 5) (ha : mt_M h a) (r0 : 0 ≤ r) (r1 : r + 2 ≤ h) (l0 : 0 ≤ a 20) (l1 : a 20 ≤ 1000) : mt_both h (mt_sgn h r u) a 20 = a 20 + sg_k u r (r + 1) a := by
  rw [mo_L h2 h5 (mt_sgn_M h5 r0 r1) ha r0 r1 (fun q q0 q1 n1 n2 => ?_), sg_20, Int.zero_add, w64_id (x := a 20) ⟨by omega, by omega⟩]
  · have : (if mt_sgn h r u (h + r) = h + r + 1 ∧ a r = r + 1 then 1 else 0) = sg_k u r (r + 1) a := by
      unfold sg_k
      by_cases hu : u = 0
      · subst hu
        have := (sg_S0 (q := r) h5 r0 r1 r0 (by omega)).2
        have t := sg_t_r (q := r) r0 r1 r0 (by omega)
        rw [if_neg (fun c => by have := c.1; omega), if_neg (fun c => c.1 rfl)]
      · have := ((sg_S1 (q := r) h5 hu r0 r1 r0 (by omega)).1 rfl).2
        by_cases z : a r = r + 1
        · rw [if_pos ⟨this, z⟩, if_pos ⟨hu, z⟩]
        · rw [if_neg (fun c => z c.2), if_neg (fun c => z c.2)]
    rw [this]
    have : 0 ≤ sg_k u r (r + 1) a ∧ sg_k u r (r + 1) a ≤ 1 := by unfold sg_k; split <;> omega
    exact w64_id ⟨by omega, by omega⟩
  · right
    rw [show q + h = h + q by omega]
    by_cases hu : u = 0
    · subst hu
      have := (sg_S0 (q := q) h5 r0 r1 q0 q1).2
      have t := sg_t_r (q := q) r0 r1 q0 q1
      omega
    · have := ((sg_S1 (q := q) h5 hu r0 r1 q0 q1).2.2 n1 n2).2
      omega
/-! products of signs: from the left or from the right, they are one -/
/-- pairs and loops alike -/
def so_e (h : Int) (f g : Int → Int) : Prop := mt_eq h f g ∧ f 20 = g 20
theorem so_t {h : Int} {f g k : Int → Int} (a : so_e h f g) (b : so_e h g k) : so_e h f k := ⟨fun e e0 e1 => by rw [a.1 e e0 e1, b.1 e e0 e1], by rw [a.2, b.2]⟩
theorem so_s {h : Int} {f g : Int → Int} (a : so_e h f g) : so_e h g f := ⟨fun e e0 e1 => (a.1 e e0 e1).symm, a.2.symm⟩
theorem sg_f_c {u x y e n : Int} {f g : Int → Int} (h : ∀ e, 0 ≤ e → e < n → f e = g e) (x0 : 0 ≤ x ∧ x < n) (y0 : 0 ≤ y ∧ y < n) (e0 : 0 ≤ e ∧ e < n) : sg_f u x y f e = sg_f u x y g e := by
  have t : 0 ≤ sg_t x y e ∧ sg_t x y e < n := by unfold sg_t; (repeat' split) <;> omega
  unfold sg_f
  rw [h _ t.1 t.2, h _ e0.1 e0.2, h _ x0.1 x0.2, h _ y0.1 y0.2]
theorem sg_k_c {u x y n : Int} {f g : Int → Int} (h : ∀ e, 0 ≤ e → e < n → f e = g e) (x0 : 0 ≤ x ∧ x < n) : sg_k u x y f = sg_k u x y g := by
  unfold sg_k; rw [h _ x0.1 x0.2]
theorem sg_k_r {u x y : Int} {f : Int → Int} : 0 ≤ sg_k u x y f ∧ sg_k u x y f ≤ 1 := by unfold sg_k; split <;> omega
/-- a matching with few loops -/
def so_M (h N : Int) (a : Int → Int) : Prop := mt_M h a ∧ 0 ≤ a 20 ∧ a 20 ≤ N
theorem so_R {h r u N : Int} {a : Int → Int} (h2 : 2 ≤ h) (h5 : h ≤ 5) (ha : so_M h N a) (N1 : N ≤ 1000) (r0 : 0 ≤ r) (r1 : r + 2 ≤ h) : (∀ e, 0 ≤ e → e < 2 * h → mt_both h a (mt_sgn h r u) e = sg_f u (h + r) (h + r + 1) a e) ∧ mt_both h a (mt_sgn h r u) 20 = a 20 + sg_k u (h + r) (h + r + 1) a ∧ so_M h (N + 1) (mt_both h a (mt_sgn h r u)) := by
  have b := sg_r20 (u := u) h2 h5 ha.1 r0 r1 ha.2.1 (by have := ha.2.2; omega)
  have k := sg_k_r (u := u) (x := h + r) (y := h + r + 1) (f := a)
  have l := ha.2
  exact ⟨fun e e0 e1 => by rw [mt_eq_both h5 e e0 e1, sg_r h2 h5 ha.1 r0 r1 e0 e1], b, mt_both_M h5 ha.1 (mt_sgn_M h5 r0 r1), by omega, by omega⟩
theorem so_L {h r u N : Int} {a : Int → Int} (h2 : 2 ≤ h) (h5 : h ≤ 5) (ha : so_M h N a) (N1 : N ≤ 1000) (r0 : 0 ≤ r) (r1 : r + 2 ≤ h) : (∀ e, 0 ≤ e → e < 2 * h → mt_both h (mt_sgn h r u) a e = sg_f u r (r + 1) a e) ∧ mt_both h (mt_sgn h r u) a 20 = a 20 + sg_k u r (r + 1) a ∧ so_M h (N + 1) (mt_both h (mt_sgn h r u) a) := by
  have b := sg_l20 (u := u) h2 h5 ha.1 r0 r1 ha.2.1 (by have := ha.2.2; omega)
  have k := sg_k_r (u := u) (x := r) (y := r + 1) (f := a)
  have l := ha.2
  exact ⟨fun e e0 e1 => by rw [mt_eq_both h5 e e0 e1, sg_l h2 h5 ha.1 r0 r1 e0 e1], b, mt_both_M h5 (mt_sgn_M h5 r0 r1) ha.1, by omega, by omega⟩
theorem so_Rc {h r u N : Int} {a a' : Int → Int} (h2 : 2 ≤ h) (h5 : h ≤ 5) (ha : so_M h N a) (ha' : so_M h N a') (N1 : N ≤ 1000) (r0 : 0 ≤ r) (r1 : r + 2 ≤ h) (q : so_e h a a') : so_e h (mt_both h a (mt_sgn h r u)) (mt_both h a' (mt_sgn h r u)) := by
  obtain ⟨x1, x2, -⟩ := so_R (u := u) h2 h5 ha N1 r0 r1
  obtain ⟨y1, y2, -⟩ := so_R (u := u) h2 h5 ha' N1 r0 r1
  refine ⟨fun e e0 e1 => ?_, ?_⟩
  · rw [x1 e e0 e1, y1 e e0 e1, sg_f_c (n := 2 * h) q.1 ⟨by omega, by omega⟩ ⟨by omega, by omega⟩ ⟨e0, e1⟩]
  · rw [x2, y2, q.2, sg_k_c (n := 2 * h) q.1 ⟨by omega, by omega⟩]
theorem so_Lc {h r u N : Int} {a a' : Int → Int} (h2 : 2 ≤ h) (h5 : h ≤ 5) (ha : so_M h N a) (ha' : so_M h N a') (N1 : N ≤ 1000) (r0 : 0 ≤ r) (r1 : r + 2 ≤ h) (q : so_e h a a') : so_e h (mt_both h (mt_sgn h r u) a) (mt_both h (mt_sgn h r u) a') := by
  obtain ⟨x1, x2, -⟩ := so_L (u := u) h2 h5 ha N1 r0 r1
  obtain ⟨y1, y2, -⟩ := so_L (u := u) h2 h5 ha' N1 r0 r1
  refine ⟨fun e e0 e1 => ?_, ?_⟩
  · rw [x1 e e0 e1, y1 e e0 e1, sg_f_c (n := 2 * h) q.1 ⟨by omega, by omega⟩ ⟨by omega, by omega⟩ ⟨e0, e1⟩]
  · rw [x2, y2, q.2, sg_k_c (n := 2 * h) q.1 ⟨by omega, by omega⟩]
/-- one sign before, one behind -/
theorem so_a {h r u r' u' N : Int} {a : Int → Int} (h2 : 2 ≤ h) (h5 : h ≤ 5) (ha : so_M h N a) (N1 : N ≤ 900) (r0 : 0 ≤ r) (r1 : r + 2 ≤ h) (s0 : 0 ≤ r') (s1 : r' + 2 ≤ h) : so_e h (mt_both h (mt_sgn h r u) (mt_both h a (mt_sgn h r' u'))) (mt_both h (mt_both h (mt_sgn h r u) a) (mt_sgn h r' u')) := by
  obtain ⟨x1, x2, x3⟩ := so_R (u := u') h2 h5 ha (by omega) s0 s1
  obtain ⟨y1, y2, y3⟩ := so_L (u := u) h2 h5 ha (by omega) r0 r1
  obtain ⟨z1, z2, -⟩ := so_L (u := u) h2 h5 x3 (by omega) r0 r1
  obtain ⟨w1, w2, -⟩ := so_R (u := u') h2 h5 y3 (by omega) s0 s1
  have hf : ∀ e, 0 ≤ e → e < 2 * h → a (a e) = e ∧ a e ≠ e := fun e e0 e1 => (ha.1 e e0 e1).2.2
  have d : sg_d r (r + 1) (h + r') (h + r' + 1) := ⟨by omega, by omega, by omega, by omega, by omega, by omega⟩
  refine ⟨fun e e0 e1 => ?_, ?_⟩
  · rw [z1 e e0 e1, w1 e e0 e1, sg_f_c (n := 2 * h) x1 ⟨by omega, by omega⟩ ⟨by omega, by omega⟩ ⟨e0, e1⟩, sg_f_c (f := mt_both h (mt_sgn h r u) a) (n := 2 * h) y1 ⟨by omega, by omega⟩ ⟨by omega, by omega⟩ ⟨e0, e1⟩]
    exact sg_c d hf ⟨by omega, by omega⟩ ⟨by omega, by omega⟩ ⟨by omega, by omega⟩ ⟨by omega, by omega⟩ ⟨e0, e1⟩
  · rw [z2, w2, x2, y2, sg_k_c (n := 2 * h) x1 ⟨by omega, by omega⟩, sg_k_c (f := mt_both h (mt_sgn h r u) a) (n := 2 * h) y1 ⟨by omega, by omega⟩]
    have := sg_kc (u := u) (v := u') d hf ⟨by omega, by omega⟩ ⟨by omega, by omega⟩ ⟨by omega, by omega⟩ ⟨by omega, by omega⟩
    omega
/-- n signs from o on, from the left -/
def so_p (h : Int) (r u : Nat → Int) (o : Nat) : Nat → Int → Int
  | 0 => mt_str h
  | n + 1 => mt_both h (so_p h r u o n) (mt_sgn h (r (o + n)) (u (o + n)))
/-- the last k of s signs, from the right -/
def so_q (h : Int) (r u : Nat → Int) (s : Nat) : Nat → Int → Int
  | 0 => mt_str h
  | k + 1 => mt_both h (mt_sgn h (r (s - 1 - k)) (u (s - 1 - k))) (so_q h r u s k)
theorem so_str {h : Int} (h5 : h ≤ 5) : so_M h 0 (mt_str h) := by
  have : mt_str h 20 = 0 := by unfold mt_str; rw [if_neg (by omega)]
  exact ⟨mt_str_M h5, by omega, by omega⟩
theorem so_p_M {h : Int} {r u : Nat → Int} (h2 : 2 ≤ h) (h5 : h ≤ 5) (o : Nat) : ∀ n : Nat, n ≤ 100 → (∀ j, o ≤ j → j < o + n → 0 ≤ r j ∧ r j + 2 ≤ h) → so_M h n (so_p h r u o n) := by
  intro n
  induction n with
  | zero => intro _ _; exact so_str h5
  | succ n ih =>
    intro hn hr
    have i := ih (by omega) (fun j a b => hr j a (by omega))
    obtain ⟨r0, r1⟩ := hr (o + n) (by omega) (by omega)
    have := (so_R (u := u (o + n)) h2 h5 i (by omega) r0 r1).2.2
    rw [show ((n + 1 : Nat) : Int) = (n : Int) + 1 by omega]
    exact this
theorem so_q_M {h : Int} {r u : Nat → Int} (h2 : 2 ≤ h) (h5 : h ≤ 5) (s : Nat) : ∀ k : Nat, k ≤ 100 → k ≤ s → (∀ j, j < s → 0 ≤ r j ∧ r j + 2 ≤ h) → so_M h k (so_q h r u s k) := by
  intro k
  induction k with
  | zero => intro _ _ _; exact so_str h5
  | succ k ih =>
    intro hk ks hr
    have i := ih (by omega) (by omega) hr
    obtain ⟨r0, r1⟩ := hr (s - 1 - k) (by omega)
    have := (so_L (u := u (s - 1 - k)) h2 h5 i (by omega) r0 r1).2.2
    rw [show ((k + 1 : Nat) : Int) = (k : Int) + 1 by omega]
    exact this
/-- a sign with straight rails, on either side -/
theorem so_1 {h r u : Int} (h2 : 2 ≤ h) (h5 : h ≤ 5) (r0 : 0 ≤ r) (r1 : r + 2 ≤ h) : so_e h (mt_both h (mt_sgn h r u) (mt_str h)) (mt_both h (mt_str h) (mt_sgn h r u)) := by
  have a := mt_id_r h2 h5 (mt_sgn_M (u := u) h5 r0 r1) (mt_sgn_ok (i := r) (u := u) h5)
  have b := mt_id h2 h5 (mt_sgn_M (u := u) h5 r0 r1) (mt_sgn_ok (i := r) (u := u) h5)
  exact ⟨fun e e0 e1 => by rw [(a.1 e e0 e1).1, (b.1 e e0 e1).1], by rw [a.2.1, b.2.1]⟩
theorem so_pl {h : Int} {r u : Nat → Int} (h2 : 2 ≤ h) (h5 : h ≤ 5) (o : Nat) : ∀ n : Nat, n ≤ 50 → (∀ j, o ≤ j → j < o + 1 + n → 0 ≤ r j ∧ r j + 2 ≤ h) → so_e h (mt_both h (mt_sgn h (r o) (u o)) (so_p h r u (o + 1) n)) (so_p h r u o (n + 1)) := by
  intro n
  induction n with
  | zero =>
    intro _ hr
    obtain ⟨r0, r1⟩ := hr o (by omega) (by omega)
    exact so_1 h2 h5 r0 r1
  | succ n ih =>
    intro hn hr
    obtain ⟨r0, r1⟩ := hr o (by omega) (by omega)
    obtain ⟨s0, s1⟩ := hr (o + 1 + n) (by omega) (by omega)
    have i := ih (by omega) (fun j a b => hr j a (by omega))
    have m1 := so_p_M (u := u) h2 h5 (o + 1) n (by omega) (fun j a b => hr j (by omega) (by omega))
    have m2 := so_p_M (u := u) h2 h5 o (n + 1) (by omega) (fun j a b => hr j (by omega) (by omega))
    have a := so_a (u := u o) (u' := u (o + 1 + n)) h2 h5 m1 (by omega) r0 r1 s0 s1
    have m3 := (so_L (u := u o) h2 h5 m1 (by omega) r0 r1).2.2
    rw [show (n : Int) + 1 = ((n + 1 : Nat) : Int) by omega] at m3
    have b := so_Rc (u := u (o + 1 + n)) h2 h5 m3 m2 (by omega) s0 s1 i
    refine so_t a ?_
    have e : so_p h r u o (n + 1 + 1) = mt_both h (so_p h r u o (n + 1)) (mt_sgn h (r (o + (n + 1))) (u (o + (n + 1)))) := rfl
    rw [e, show o + (n + 1) = o + 1 + n by omega]
    exact b
theorem so_qp {h : Int} {r u : Nat → Int} (h2 : 2 ≤ h) (h5 : h ≤ 5) (s : Nat) (hs : s ≤ 50) (hr : ∀ j, j < s → 0 ≤ r j ∧ r j + 2 ≤ h) : ∀ k : Nat, k ≤ s → so_e h (so_q h r u s k) (so_p h r u (s - k) k) := by
  intro k
  induction k with
  | zero => intro _; exact ⟨fun _ _ _ => rfl, rfl⟩
  | succ k ih =>
    intro hk
    obtain ⟨r0, r1⟩ := hr (s - 1 - k) (by omega)
    have m1 := so_q_M (u := u) h2 h5 s k (by omega) (by omega) hr
    have m2 := so_p_M (u := u) h2 h5 (s - k) k (by omega) (fun j a b => hr j (by omega))
    have c := so_Lc (u := u (s - 1 - k)) h2 h5 m1 m2 (by omega) r0 r1 (ih (by omega))
    have p := so_pl (u := u) (r := r) h2 h5 (s - 1 - k) k (by omega) (fun j a b => hr j (by omega))
    rw [show s - 1 - k + 1 = s - k by omega] at p
    rw [show s - (k + 1) = s - 1 - k by omega]
    exact so_t c p
/-! alike pairs and loops give alike powers; a weave all of whose powers leave one loop -/
theorem so_rs {h : Int} {a b a' b' : Int → Int} (h2 : 0 ≤ h) (h5 : h ≤ 5) (ha : mt_M h a) (hb : mt_M h b) (ea : mt_eq h a a') (eb : mt_eq h b b') (e20 : a 20 = a' 20) (f20 : b 20 = b' 20) : ∀ n : Nat, (n : Int) ≤ h → (mt_rs h a b n).1 = (mt_rs h a' b' n).1 ∧ (mt_rs h a b n).2.1 = (mt_rs h a' b' n).2.1 := by
  intro n
  induction n with
  | zero =>
    intro _
    unfold mt_rs
    rw [mt_mm_c0 ea eb, e20, f20]
    exact ⟨rfl, rfl⟩
  | succ n ih =>
    intro hn
    obtain ⟨i1, i2⟩ := ih (by omega)
    have hC := mt_rs_C h2 h5 ha hb n (by omega)
    unfold mt_rs
    by_cases q : mb_t (mt_rs h a b n).1 n = 0
    · have er : (mt_rg h a b n).1 = (mt_rg h a' b' n).1 := by
        obtain ⟨o, t, e1, e2, o0, o1, t0, t1, n1, n2, e3, e4, z1, z2, c⟩ := mt_rg_C h5 ha hb hC (by omega) (by omega) q
        have b1 := eb n (by omega) (by omega)
        have a1 := ea (b n + h) (by omega) (by omega)
        have e17 : (mt_r1 h a b 0 0 n).2.2 = t := by show a (b n + h) - h = t; rw [e1]; omega
        have e17' : (mt_r1 h a' b' 0 0 n).2.2 = t := by show a' (b' n + h) - h = t; rw [← b1, ← a1, e1]; omega
        have d1 : (mt_r1 h a b 0 0 n).1 = (mt_r1 h a' b' 0 0 n).1 := by unfold mt_r1; rw [← b1, a1]
        unfold mt_rg
        rw [e17, e17']
        rcases c with c | ⟨nc, o2, f1, f2, p0, p1, k1, k2, k3, f3, f4, yy⟩
        · rw [if_pos c, if_pos c]; exact d1
        · rw [if_neg nc, if_neg nc, d1]
          have b2 := eb t (by omega) (by omega)
          have a2 := ea (b t + h) (by omega) (by omega)
          show b_or _ (b_or (b_shl 1 (b t)) (b_shl 1 (a (b t + h) - h))) = b_or _ (b_or (b_shl 1 (b' t)) (b_shl 1 (a' (b' t + h) - h)))
          rw [← b2, a2]
      rw [if_pos q, if_pos (by rw [← i1]; exact q)]
      exact ⟨by show b_or _ _ = b_or _ _; rw [i1, er], by show w64 _ = w64 _; rw [i2]⟩
    · rw [if_neg q, if_neg (by rw [← i1]; exact q)]
      exact ⟨i1, i2⟩
theorem so_both {h : Int} {a b a' b' : Int → Int} (h2 : 0 ≤ h) (h5 : h ≤ 5) (ha : mt_M h a) (hb : mt_M h b) (ea : so_e h a a') (eb : so_e h b b') : so_e h (mt_both h a b) (mt_both h a' b') := by
  refine ⟨fun e e0 e1 => ?_, ?_⟩
  · rw [mt_eq_both h5 e e0 e1, mt_eq_both h5 e e0 e1]
    unfold mt_prod
    rw [mt_eq_out ea.1 eb.1 _ _ (mt_s_all e0 e1).1]
  · have e : ∀ a b, mt_both h a b 20 = (mt_rs h a b h.toNat).2.1 := fun a b => by unfold mt_both; rw [if_neg (by omega), if_neg (by omega), if_pos rfl]
    rw [e, e]
    exact (so_rs h2 h5 ha hb ea.1 eb.1 ea.2 eb.2 h.toNat (by omega)).2
theorem so_pp {h : Int} {v v' : Int → Int} (h2 : 0 ≤ h) (h5 : h ≤ 5) (hv : mt_M h v) (e : so_e h v v') : ∀ n : Nat, so_e h (mt_pp h v n) (mt_pp h v' n) := by
  intro n
  induction n with
  | zero => exact e
  | succ n ih => exact so_both h2 h5 (mt_pp_M h5 hv n) hv ih e
theorem so_plo {h : Int} {v v' cl : Int → Int} (h2 : 0 ≤ h) (h5 : h ≤ 5) (hv : mt_M h v) (hc : mt_M h cl) (e : so_e h v v') (n : Nat) : mt_plo h v cl n = mt_plo h v' cl n := by
  have p := so_pp h2 h5 hv e n
  unfold mt_plo
  rw [p.2, mt_cl_c h2 (mt_pp_M h5 hv n) hc p.1]
/-- every power leaves one loop -/
def mn_one (h : Int) (v cl : Int → Int) : Prop := ∀ i : Nat, i ≤ 1900 → mt_plo h v cl i = 1
theorem mn_one_c {h : Int} {v v' cl : Int → Int} (h2 : 0 ≤ h) (h5 : h ≤ 5) (hv : mt_M h v) (hc : mt_M h cl) (e : so_e h v v') : mn_one h v cl ↔ mn_one h v' cl := by
  unfold mn_one
  constructor
  · intro o i hi; rw [← so_plo h2 h5 hv hc e i]; exact o i hi
  · intro o i hi; rw [so_plo h2 h5 hv hc e i]; exact o i hi
/-- the first n + 1 say it for all -/
theorem mn_one_n {h : Int} {v cl : Int → Int} {a n : Nat} (h0 : 0 ≤ h) (h5 : h ≤ 5) (hv : mt_M h v) (ov : mt_ok h v) (hc : mt_M h cl) (v0 : 0 ≤ v 20) (v1 : v 20 ≤ 5000000000000) (an : a < n) (n9 : n ≤ 945) (e : mt_eq h (mt_pp h v a) (mt_pp h v n)) (o : ∀ i : Nat, i ≤ n → mt_plo h v cl i = 1) : mn_one h v cl := by
  have K : ∀ b i : Nat, i ≤ b → i ≤ 1900 → mt_plo h v cl i = 1 := by
    intro b
    induction b with
    | zero => intro i hi _; exact o i (by omega)
    | succ b ih =>
      intro i hi h9
      by_cases z : i ≤ n
      · exact o i z
      · obtain ⟨k, hk⟩ : ∃ k, i = n + k := ⟨i - n, by omega⟩
        have g := (mt_plo_g (cl := cl) h0 h5 hv ov hc v0 v1 (Nat.le_of_lt an) e k (by omega)).1
        rw [hk, g, ih (a + k) (by omega) (by omega), o n (Nat.le_refl n), o a (by omega)]
        rfl
  exact fun i hi => K i i (Nat.le_refl i) hi
/-- the class: leavesOne -/
theorem s_alwaysOne_x {Q : Int → ml_St → Prop} {h : Int} {v cl : Int → Int} {a n : Nat} {σ : ml_St} (p : mq_q h v cl a n σ) (k1 : (∀ i : Nat, i ≤ n → mt_plo h v cl i = 1) → Q 1 σ) (k0 : ¬ (∀ i : Nat, i ≤ n → mt_plo h v cl i = 1) → Q 0 σ) : f_X6_alwaysLeaveOne σ Q := by
  obtain ⟨p1, p2, p3, p4, p5, p6, -⟩ := p
  have L : ∀ (N : Nat) (x y : Int), 1 ≤ y → y ≤ n + 2 → n + 2 - y < N → ((x = 1 ∧ ∀ i : Nat, (i : Int) + 1 < y → mt_plo h v cl i = 1) ∨ (x = 0 ∧ ¬ ∀ i : Nat, i ≤ n → mt_plo h v cl i = 1)) → f_X6_alwaysLeaveOne_u4 Q (f_X6_alwaysLeaveOne_u44 Q) N σ x y := by
    intro N
    induction N with
    | zero => intro x y y0 y1 hN; omega
    | succ N ih =>
      intro x y y0 y1 hN hx
      unfold f_X6_alwaysLeaveOne_u4
      rw [p3, p4]
      have nx : ∀ s, y ≤ n + 1 → ((s = 1 ∧ ∀ i : Nat, (i : Int) + 1 < y + 1 → mt_plo h v cl i = 1) ∨ (s = 0 ∧ ¬ ∀ i : Nat, i ≤ n → mt_plo h v cl i = 1)) → f_X6_alwaysLeaveOne_u37 Q (f_X6_alwaysLeaveOne_u4 Q (f_X6_alwaysLeaveOne_u44 Q) N) σ y s := fun s hy hs => by
        unfold f_X6_alwaysLeaveOne_u37
        refine ⟨mt_I (by omega) (by omega), fun y1 e => ?_⟩
        subst e
        exact ih s (y + 1) (by omega) (by omega) (by omega) hs
      refine fun _ _ => ⟨mt_I (by omega) (by omega), fun c => ?_, fun c => ⟨fun x0 => ?_, fun x0 => ⟨by omega, by omega, ?_⟩⟩⟩
      · unfold f_X6_alwaysLeaveOne_u44
        rcases hx with ⟨e, o⟩ | ⟨e, o⟩
        · rw [e]; exact k1 (fun i hi => o i (by omega))
        · rw [e]; exact k0 o
      · unfold f_X6_alwaysLeaveOne_u36
        exact nx 0 (by omega) (Or.inr ⟨rfl, (hx.resolve_left (fun z => by omega)).2⟩)
      · have o := (hx.resolve_right (fun z => x0 z.1)).2
        have g := p6 (y - 1).toNat (by omega)
        rw [show (((y - 1).toNat : Nat) : Int) + 1 = y by omega] at g
        rw [g]
        refine fun _ => ⟨fun z => ?_, fun z => nx 1 (by omega) (Or.inl ⟨rfl, fun i hi => ?_⟩)⟩
        · unfold f_X6_alwaysLeaveOne_u36
          exact nx 0 (by omega) (Or.inr ⟨rfl, fun c => z (c (y - 1).toNat (by omega))⟩)
        · by_cases w : i = (y - 1).toNat
          · rw [w]; exact z
          · exact o i (by omega)
  unfold f_X6_alwaysLeaveOne f_X6_alwaysLeaveOne_u0
  exact ⟨n + 3, L _ 1 1 (by omega) (by omega) (by omega) (Or.inl ⟨rfl, fun i hi => by omega⟩)⟩
theorem s_leavesOne_x {Q : Int → ml_St → Prop} {p h : Int} {σ0 : ml_St} {v cl : Int → Int} (h2 : 2 ≤ h) (h5 : h ≤ 5) (pd : 55 ≤ p) (hv : mt_M h v) (ov : mt_ok h v) (v0 : 0 ≤ v 20) (v1 : v 20 ≤ 1000) (wv : mt_wv h σ0 p v) (hc : mt_M h cl) (ec : mt_eq h (σ0 5) cl) (k : ∀ r σ, (r = 1 ∧ mn_one h v cl ∨ r = 0 ∧ ¬ mn_one h v cl) → mt_f46 σ0 σ → Q r σ) : f_X5_leavesOne σ0 p h Q := by
  have e0 : mt_plo h v cl 0 = w64 (v 20 + mt_cl h v cl) := rfl
  unfold f_X5_leavesOne f_X5_leavesOne_u0
  rw [wv.2.1]
  refine fun _ => s_loopsBy h2 h5 hv hc (mt_eq_wa wv).1 ec (fun _ => ⟨fun _ => s_study_x h2 h5 (Or.inr pd) (by omega) hv wv hc ec (mq_64_p h v h2 h5 hv) (fun σ a n f q => s_alwaysOne_x q (fun o _ => ?_) (fun o _ => ?_)), fun z => k 0 σ0 (Or.inr ⟨rfl, fun o => z (by rw [← e0]; exact o 0 (by omega))⟩) (fun _ _ => rfl)⟩)
  · exact k 1 σ (Or.inl ⟨rfl, mn_one_n (by omega) h5 hv ov hc v0 (by omega) q.1 (by have := q.2.1; omega) q.2.2.2.2.2.2.1 o⟩) f
  · exact k 0 σ (Or.inr ⟨rfl, fun c => o (fun i hi => c i (by have := q.2.1; omega))⟩) f
/-! the class: mend, exactly -/
/-- is sign i of t turned, once those of the set are changed? -/
def mn_u (t : Int → Int) (set : Int) (i : Nat) : Int := if (t (2 * i) = 117 ∧ mb_t set i = 0) ∨ (t (2 * i) ≠ 117 ∧ mb_t set i ≠ 0) then 1 else 0
def mn_r (t : Int → Int) (i : Nat) : Int := t (2 * i + 1) - 48
/-- the best set of those below m, how many it changes -/
def mn_b (P : Nat → Prop) : Nat → Int → Int → Prop
  | 0, b, f => b = -2 ∧ f = 11
  | m + 1, b, f => ∃ b' f', mn_b P m b' f' ∧ (((mb_sw m : Int) < f' ∧ P m ∧ b = m ∧ f = mb_sw m) ∨ (¬ ((mb_sw m : Int) < f' ∧ P m) ∧ b = b' ∧ f = f'))
theorem mn_b_u {P P' : Nat → Prop} : ∀ (m : Nat) (b f b2 f2 : Int), (∀ i, i < m → (P i ↔ P' i)) → mn_b P m b f → mn_b P' m b2 f2 → b = b2 ∧ f = f2 := by
  intro m
  induction m with
  | zero => intro b f b2 f2 _ x y; exact ⟨by rw [x.1, y.1], by rw [x.2, y.2]⟩
  | succ m ih =>
    intro b f b2 f2 h x y
    obtain ⟨b', f', x1, x2⟩ := x
    obtain ⟨b3, f3, y1, y2⟩ := y
    obtain ⟨e1, e2⟩ := ih b' f' b3 f3 (fun i hi => h i (by omega)) x1 y1
    subst e1; subst e2
    have hm := h m (by omega)
    rcases x2 with ⟨u1, u2, u3, u4⟩ | ⟨u1, u3, u4⟩ <;> rcases y2 with ⟨w1, w2, w3, w4⟩ | ⟨w1, w3, w4⟩
    · exact ⟨by rw [u3, w3], by rw [u4, w4]⟩
    · exact absurd ⟨u1, hm.1 u2⟩ w1
    · exact absurd ⟨w1, hm.2 w2⟩ u1
    · exact ⟨by rw [u3, w3], by rw [u4, w4]⟩
theorem so_q_c {h : Int} {r u u' : Nat → Int} {s : Nat} : ∀ k : Nat, k ≤ s → (∀ i, s - k ≤ i → i < s → u i = u' i) → so_q h r u s k = so_q h r u' s k := by
  intro k
  induction k with
  | zero => intro _ _; rfl
  | succ k ih =>
    intro hk e
    have i := ih (by omega) (fun i a b => e i (by omega) b)
    show mt_both h (mt_sgn h (r (s - 1 - k)) (u (s - 1 - k))) (so_q h r u s k) = mt_both h (mt_sgn h (r (s - 1 - k)) (u' (s - 1 - k))) (so_q h r u' s k)
    rw [i, e (s - 1 - k) (by omega) (by omega)]
theorem so_q_ok {h : Int} {r u : Nat → Int} {s : Nat} (h5 : h ≤ 5) : ∀ k : Nat, mt_ok h (so_q h r u s k) := by
  intro k
  cases k with
  | zero => exact mt_str_ok h5
  | succ k => exact mt_both_ok h5 (mt_sgn_ok h5).2.2.1
/-- above the lowest place of a set, the set below it is alike -/
def mb_hi (n : Nat) : Bool := mb_fc (mb_sw (b_and (n : Int) (-(n : Int)) - 1).toNat) (fun k => (List.range 10).all (fun i => decide (i ≤ k) || (n.testBit i == (n - 1).testBit i)))
theorem mb_hi_1 : ∀ a, a < 4 → ∀ b, b < 256 → (256 * a + b = 0 ∨ mb_hi (256 * a + b) = true) := by decide +kernel
theorem mb_hi_e {n i : Nat} (h0 : 0 < n) (h : n < 1024) (hi : mb_sw (b_and (n : Int) (-(n : Int)) - 1).toNat < i) (i9 : i < 10) : mb_t (n : Int) i = mb_t ((n : Int) - 1) i := by
  have := mb_hi_1 (n / 256) (by omega) (n % 256) (by omega)
  rw [show 256 * (n / 256) + n % 256 = n by omega] at this
  rcases this with q | q
  · omega
  · unfold mb_hi at q
    rw [mb_fc_e, List.all_eq_true] at q
    have z := q i (List.mem_range.mpr i9)
    rw [Bool.or_eq_true] at z
    rcases z with z | z
    · have := of_decide_eq_true z; omega
    · have z : n.testBit i = (n - 1).testBit i := by simpa using z
      rw [show (n : Int) - 1 = ((n - 1 : Nat) : Int) by omega, mb_t_n (by omega) (by omega), mb_t_n (by omega) (by omega), z]
theorem s_leastSet_x {Q : Int → ml_St → Prop} {p h n : Int} {σ0 : ml_St} {t cl : Int → Int} {s : Nat} (h2 : 2 ≤ h) (h5 : h ≤ 5) (pd : 118 < p) (n0 : 2 ≤ n) (n20 : n ≤ 20) (hs : n / 2 = s) (es : σ0 p 1 = n) (et : mt_teq n (σ0 (p + 1)) t) (tI : ∀ j, 0 ≤ j → j < n → ml_I8 (t j)) (hp : ∀ k : Nat, 2 * (k : Int) < n → (t (2 * k) = 120 ∨ t (2 * k) = 117) ∧ 2 * (k : Int) + 1 < n ∧ 48 ≤ t (2 * k + 1) ∧ t (2 * k + 1) ≤ 57 ∧ t (2 * k + 1) - 48 ≤ h - 2) (hc : mt_M h cl) (ec : mt_eq h (σ0 5) cl) (k : ∀ b f σ, mn_b (fun m => mn_one h (so_q h (mn_r t) (mn_u t m) s s) cl) (2 ^ s) b f → I32 b → mt_kp σ0 σ → Q b σ) : f_X5_leastSet σ0 p h Q := by
  have td : Int.tdiv n 2 = n / 2 := Int.tdiv_eq_ediv_of_nonneg (by omega)
  rw [hs] at td
  have s1 : 1 ≤ s := by omega
  have s10 : s ≤ 10 := by omega
  generalize hP : (fun m : Nat => mn_one h (so_q h (mn_r t) (mn_u t m) s s) cl) = P at k
  have kpf : ∀ σ, mt_f78 σ0 σ → mt_kp σ0 σ := fun σ f j hj => f j (by omega)
  have rr : ∀ i : Nat, i < s → 0 ≤ mn_r t i ∧ mn_r t i + 2 ≤ h := fun i hi => by
    obtain ⟨-, -, a, b, c⟩ := hp i (by omega)
    unfold mn_r; omega
  have rd : ∀ σ, mt_f78 σ0 σ → ∀ i : Nat, i < s → (σ (p + 1) (2 * (i : Int)) = t (2 * i) ∧ σ (p + 1) (2 * (i : Int) + 1) = t (2 * i + 1) ∧ 48 ≤ t (2 * i + 1) ∧ t (2 * i + 1) ≤ 57 ∧ t (2 * i + 1) - 48 ≤ h - 2) := by
    intro σ f i hi
    have := hp i (by omega)
    rw [f (p + 1) (by omega)]
    exact ⟨et _ (by omega) (by omega), et _ (by omega) this.2.1, this.2.2.1, this.2.2.2.1, this.2.2.2.2⟩
  have p2 : (2 : Nat) ^ s ≤ 2 ^ 10 := Nat.pow_le_pow_right (by omega) s10
  have esh : b_shl 1 s = ((2 ^ s : Nat) : Int) := mb_shl (by omega)
  have QM : ∀ (u : Nat → Int) (k : Nat), k ≤ s → so_M h k (so_q h (mn_r t) u s k) := fun u k hk => so_q_M h2 h5 s k (by omega) hk rr
  have L : ∀ (N : Nat) (set : Nat) (best few : Int) (σ : ml_St), set ≤ 2 ^ s → 2 ^ s - set < N → mt_f78 σ0 σ → I32 best → mn_b P set best few → 0 ≤ few → few ≤ 100 → (set = 0 → mt_wv h σ (81 + 3 * (s : Int)) (mt_str h)) → (set ≠ 0 → ∀ j : Nat, j ≤ s → mt_wv h σ (81 + 3 * (j : Int)) (so_q h (mn_r t) (mn_u t ((set : Int) - 1)) s (s - j))) → f_X5_leastSet_u36 Q (f_X5_leastSet_u234 Q p) p N σ h s best few set := by
    intro N
    induction N with
    | zero => intro set best few σ q1 hN; omega
    | succ N ih =>
      intro set best few σ q1 hN f hb hB f0 f1 hv0 hv1
      unfold f_X5_leastSet_u36
      rw [esh]
      refine ⟨fun c => ?_, fun c => ?_⟩
      · unfold f_X5_leastSet_u234
        have : set = 2 ^ s := by omega
        rw [this] at hB
        exact k best few σ hB hb (kpf σ f)
      -- on to the next set
      have NX : ∀ (σ : ml_St) (best few : Int), mt_f78 σ0 σ → I32 best → mn_b P (set + 1) best few → 0 ≤ few → few ≤ 100 → (∀ j : Nat, j ≤ s → mt_wv h σ (81 + 3 * (j : Int)) (so_q h (mn_r t) (mn_u t set) s (s - j))) → f_X5_leastSet_u228 Q (f_X5_leastSet_u36 Q (f_X5_leastSet_u234 Q p) p N) p σ h s best few set := by
        intro σ best few f hb hB f0 f1 hv
        unfold f_X5_leastSet_u228
        refine ⟨mt_I (by omega) (by omega), fun y e => ?_⟩
        rw [e, show (set : Int) + 1 = ((set + 1 : Nat) : Int) by omega]
        exact ih (set + 1) best few σ (by omega) (by omega) f hb hB f0 f1 (fun z => by omega) (fun _ j j1 => by rw [show ((set + 1 : Nat) : Int) - 1 = (set : Int) by omega]; exact hv j j1)
      -- the set is done
      have DN : ∀ (σ : ml_St), mt_f78 σ0 σ → (∀ j : Nat, j ≤ s → mt_wv h σ (81 + 3 * (j : Int)) (so_q h (mn_r t) (mn_u t set) s (s - j))) → f_X5_leastSet_u190 Q (f_X5_leastSet_u36 Q (f_X5_leastSet_u234 Q p) p N) p σ h s best few set := by
        intro σ f hv
        unfold f_X5_leastSet_u190
        refine s_bitCount (by omega) ?_
        have hpc := mb_sw_pc (n := set) (by omega)
        have hle := mb_pc_le 16 set
        refine fun _ => ⟨fun g => NX σ best few f hb ⟨best, few, hB, Or.inr ⟨fun z => by omega, rfl, rfl⟩⟩ f0 f1 hv, fun c2 => ⟨by omega, by omega, ?_⟩⟩
        have v2 := hv 0 (by omega)
        have v1 := QM (mn_u t set) s (Nat.le_refl s)
        refine s_leavesOne_x (v := so_q h (mn_r t) (mn_u t set) s s) h2 h5 (by omega) v1.1 (so_q_ok h5 s) v1.2.1 (by have := v1.2.2; omega) v2 hc (fun e e0 e1 => by rw [f 5 (by omega)]; exact ec e e0 e1) (fun r σ4 hr f4 _ => ?_)
        have f4' : mt_f78 σ0 σ4 := mt_f78_t f (fun j hj => f4 j (by omega))
        have hv4 : ∀ j : Nat, j ≤ s → mt_wv h σ4 (81 + 3 * (j : Int)) (so_q h (mn_r t) (mn_u t set) s (s - j)) := fun j j1 => mt_wv_eq (f4 _ (by omega)) (f4 _ (by omega)) (f4 _ (by omega)) (hv j j1)
        have ePs : P set ↔ mn_one h (so_q h (mn_r t) (mn_u t set) s s) cl := by rw [← hP]
        rcases hr with ⟨r1, o⟩ | ⟨r1, o⟩
        · exact ⟨fun z => absurd z (by omega), fun _ => NX σ4 set _ f4' ⟨by omega, by omega⟩ ⟨best, few, hB, Or.inl ⟨by omega, ePs.2 o, rfl, rfl⟩⟩ (by omega) (by omega) hv4⟩
        · exact ⟨fun _ => NX σ4 best few f4' hb ⟨best, few, hB, Or.inr ⟨fun z => o (ePs.1 z.2), rfl, rfl⟩⟩ f0 f1 hv4, fun z => absurd r1 z⟩
      -- the tails from x down
      have D : ∀ (M : Nat) (x : Int) (σ : ml_St), -1 ≤ x → x < s → x + 1 < M → mt_f78 σ0 σ → (∀ j : Nat, x + 1 ≤ j → j ≤ s → mt_wv h σ (81 + 3 * (j : Int)) (so_q h (mn_r t) (mn_u t set) s (s - j))) → f_X5_leastSet_u74 Q (f_X5_leastSet_u190 Q (f_X5_leastSet_u36 Q (f_X5_leastSet_u234 Q p) p N) p) p M σ h s best few set x := by
        intro M
        induction M with
        | zero => intro x σ x0 x1 hM; omega
        | succ M ihM =>
          intro x σ x0 x1 hM f hv
          unfold f_X5_leastSet_u74
          refine ⟨fun c2 => DN σ f (fun j j1 => hv j (by omega) j1), fun c2 => ?_⟩
          obtain ⟨i, rfl⟩ : ∃ i : Nat, x = i := ⟨x.toNat, by omega⟩
          have hi : i < s := by omega
          obtain ⟨r1, r2, r3, r4, r5⟩ := rd σ f i hi
          have er : mn_r t i = t (2 * (i : Int) + 1) - 48 := rfl
          obtain ⟨rr0, rr1⟩ := rr i hi
          have go2 : ∀ u : Int, u = mn_u t set i → f_X5_leastSet_u153 Q (f_X5_leastSet_u74 Q (f_X5_leastSet_u190 Q (f_X5_leastSet_u36 Q (f_X5_leastSet_u234 Q p) p N) p) p M) p σ h s best few set i (2 * (t (2 * (i : Int) + 1) - 48)) u := by
            intro u hu
            have u01 : u = 0 ∨ u = 1 := by rw [hu]; unfold mn_u; split <;> omega
            unfold f_X5_leastSet_u153
            refine ⟨mt_I (by omega) (by omega), s_beSign h2 h5 (by omega) (by omega) (fun σ2 g2 w2 => ⟨by omega, by omega, mt_I (by omega) (by omega), by omega, by omega, ?_⟩)⟩
            rw [show (2 * (t (2 * (i : Int) + 1) - 48) + u) / 2 = mn_r t i by omega, show (2 * (t (2 * (i : Int) + 1) - 48) + u) % 2 = mn_u t set i by omega] at w2
            have v2 := hv (i + 1) (by omega) (by omega)
            have v1 := QM (mn_u t set) (s - (i + 1)) (by omega)
            rw [show ((i + 1 : Nat) : Int) = (i : Int) + 1 by omega] at v2
            refine s_beBoth h2 h5 (by omega) (by omega) (mt_sgn_M h5 rr0 rr1) v1.1 w2 (mt_wv_fr g2 (by omega) v2) (fun σ6 g6 w6 => ⟨mt_I (by omega) (by omega), fun y e => ?_⟩)
            have f6 : mt_f78 σ0 σ6 := mt_f78_t f (fun j hj => by rw [g6 j (by omega) (by omega) (by omega), g2 j (by omega) (by omega) (by omega)])
            have e : y = (i : Int) - 1 := by omega
            rw [e]
            refine ihM ((i : Int) - 1) σ6 (by omega) (by omega) (by omega) f6 (fun j j0 j1 => ?_)
            by_cases z : j = i
            · subst z
              have eq : so_q h (mn_r t) (mn_u t set) s (s - j) = mt_both h (mt_sgn h (mn_r t j) (mn_u t set j)) (so_q h (mn_r t) (mn_u t set) s (s - (j + 1))) := by
                rw [show s - j = s - (j + 1) + 1 by omega]
                show mt_both h (mt_sgn h (mn_r t (s - 1 - (s - (j + 1)))) (mn_u t set (s - 1 - (s - (j + 1))))) _ = _
                rw [show s - 1 - (s - (j + 1)) = j by omega]
              rw [eq]; exact w6
            · exact mt_wv_fr g6 (by omega) (mt_wv_fr g2 (by omega) (hv j (by omega) j1))
          have go : ∀ s2 : Int, s2 = mn_u t set i → f_X5_leastSet_u121 Q (f_X5_leastSet_u74 Q (f_X5_leastSet_u190 Q (f_X5_leastSet_u36 Q (f_X5_leastSet_u234 Q p) p N) p) p M) p σ h s best few set i s2 := by
            intro s2 h2'
            have u01 : s2 = 0 ∨ s2 = 1 := by rw [h2']; unfold mn_u; split <;> omega
            unfold f_X5_leastSet_u121
            rw [r2]
            exact ⟨mt_I (by omega) (by omega), mt_I (by omega) (by omega), by omega, by omega, fun _ => ⟨mt_I (by omega) (by omega), mt_I (by omega) (by omega), fun z => go2 0 (by omega), fun z => go2 1 (by omega)⟩⟩
          have go3 : ∀ u : Int, ((u = 1 ∧ t (2 * i) = 117) ∨ (u = 0 ∧ t (2 * i) ≠ 117)) → f_X5_leastSet_u98 Q (f_X5_leastSet_u74 Q (f_X5_leastSet_u190 Q (f_X5_leastSet_u36 Q (f_X5_leastSet_u234 Q p) p N) p) p M) p σ h s best few set i u := by
            intro u hu
            unfold f_X5_leastSet_u98
            unfold f_X5_leastSet_u113
            have eb : b_and (b_shr (set : Int) (i : Int)) 1 = mb_t set i := rfl
            rw [eb]
            refine ⟨fun z => ⟨fun z2 => go 0 ?_, fun z2 => go 1 ?_⟩, fun z => ⟨fun z2 => go 0 ?_, fun z2 => go 1 ?_⟩⟩ <;> unfold mn_u
            · rw [if_neg (by omega)]
            · rw [if_pos (by omega)]
            · rw [if_neg (by omega)]
            · rw [if_pos (by omega)]
          refine ⟨mt_I (by omega) (by omega), by omega, by omega, ?_⟩
          rw [r1]
          exact fun _ => ⟨fun z => go3 0 (Or.inr ⟨rfl, z⟩), fun z => go3 1 (Or.inl ⟨rfl, z⟩)⟩
      refine ⟨fun c2 => ?_, fun c2 => ⟨mt_I (by omega) (by omega), ?_⟩⟩
      · obtain ⟨m0, m1, m2⟩ := mb_lo_e (n := set) (by omega) (by omega)
        refine ⟨mt_I (by omega) (by omega), mt_I (by omega) (by omega), ?_⟩
        rw [show b_and (set : Int) (-(set : Int)) - 1 = (((b_and (set : Int) (-(set : Int)) - 1).toNat : Nat) : Int) by omega]
        refine s_bitCount (by omega) ?_
        have hlt : mb_sw (b_and (set : Int) (-(set : Int)) - 1).toNat < s := by
          rcases Nat.lt_or_ge (mb_sw (b_and (set : Int) (-(set : Int)) - 1).toNat) s with z | z
          · exact z
          · have := Nat.pow_le_pow_right (n := 2) (by omega) z
            omega
        refine fun _ => ?_
        unfold f_X5_leastSet_u68
        refine ⟨20, D 20 _ σ (by omega) (by omega) (by omega) f (fun j j0 j1 => ?_)⟩
        have hw := hv1 (by omega) j j1
        rw [so_q_c (u' := mn_u t set) (s - j) (by omega) (fun i a b => ?_)] at hw
        · exact hw
        · have := mb_hi_e (n := set) (i := i) (by omega) (by omega) (by omega) (by omega)
          unfold mn_u
          rw [← this]
      · unfold f_X5_leastSet_u68
        refine ⟨20, D 20 _ σ (by omega) (by omega) (by omega) f (fun j j0 j1 => ?_)⟩
        have : j = s := by omega
        rw [this, show s - s = 0 by omega]
        exact hv0 (by omega)
  unfold f_X5_leastSet f_X5_leastSet_u0
  rw [es, td]
  refine fun _ => ⟨by omega, mt_I (by omega) (by omega), fun y3 e3 => ?_⟩
  have e3 : y3 = (s : Int) := by omega
  subst e3
  refine ⟨by omega, by omega, s_beStraight h2 h5 (fun σ5 f5 w5 => ⟨2 ^ s + 1, ?_⟩)⟩
  exact L (2 ^ s + 1) 0 (-2) 11 σ5 (Nat.zero_le _) (by rw [Nat.sub_zero]; exact Nat.lt_succ_self _) (fun j hj => f5 j (by omega) (by omega) (by omega)) (mt_I (by omega) (by omega)) ⟨rfl, rfl⟩ (by omega) (by omega) (fun _ => w5) (fun z => absurd rfl z)
theorem c_mend_x {Q : Int → ml_St → Prop} {h told ts cap w : Int} {tb cl pr sz : Int → Int} {T : Int → Int → Int} {σ0 : ml_St} (i : IC h told ts cap tb cl pr sz T σ0) (k0 : ¬ (0 ≤ w ∧ w < told ∧ mt_pl (T w) (sz w).toNat ≠ 0 ∧ sz w ≤ 20) → Q (-1) σ0) (k1 : 0 ≤ w → w < told → mt_pl (T w) (sz w).toNat ≠ 0 → sz w ≤ 20 → ∀ (s : Nat) b f σ, IC h told ts cap tb cl pr sz T σ → (∀ j, 215 ≤ j → σ j = σ0 j) → sz w / 2 = s → s ≤ 10 → (∀ j, j < s → 0 ≤ mn_r (T w) j ∧ mn_r (T w) j + 2 ≤ h) → mn_b (fun m => mn_one h (so_q h (mn_r (T w)) (mn_u (T w) m) s s) cl) (2 ^ s) b f → Q b σ) : f_X11_mend σ0 w Q := by
  have a := i.1
  have t16 := a.2.2.2.2.2
  have c := i.2.2.1
  unfold f_X11_mend f_X11_mend_u0
  unfold f_X11_mend_u34
  refine s_isTold a.2.1 (fun w0 w1 _ => ⟨fun z => absurd z (by omega), fun _ => ?_⟩) (fun no _ => ⟨fun _ => k0 (fun y => no ⟨y.1, y.2.1⟩), fun z => absurd rfl z⟩)
  obtain ⟨⟨g, e1, et, e2⟩, -⟩ := IC_w i w0 w1
  rw [e1, e2, a.1]
  refine ⟨w0, by omega, fun _ => ⟨fun z => k0 (fun y => y.2.2.1 z), fun z => ⟨w0, by omega, fun _ => ⟨fun z2 => ⟨w0, by omega, ?_⟩, fun z2 => k0 (fun y => z2 y.2.2.2)⟩⟩⟩⟩
  have hall := mt_pl_all (t := T w) (sz w).toNat z
  have g1 := g.1
  have g2 := g.2.1
  have prs := mt_pairs (t := T w) (n := sz w) (h := h) (w := w) (by omega) (fun j j0 j1 => by have := hall j.toNat (by omega); rw [show ((j.toNat : Nat) : Int) = j by omega] at this; exact this) _ 0 0 1 (Int.le_refl 0) g.2.2.2 (by omega) (by omega)
  have prs' : ∀ k : Nat, 2 * (k : Int) < sz w → (T w (2 * k) = 120 ∨ T w (2 * k) = 117) ∧ 2 * (k : Int) + 1 < sz w ∧ 48 ≤ T w (2 * k + 1) ∧ T w (2 * k + 1) ≤ 57 ∧ T w (2 * k + 1) - 48 ≤ h - 2 := fun k hk => by
    have := prs k (by omega)
    rw [show (0 : Int) + 2 * k = 2 * k by omega] at this
    exact this
  have n2 : 2 ≤ sz w := by have := (prs' 0 (by omega)).2.1; omega
  have kk := k1 w0 w1 z z2 (sz w / 2).toNat
  refine fun _ => s_leastSet_x (n := sz w) (t := T w) (s := (sz w / 2).toNat) a.2.2.1 a.2.2.2.1 (by omega) n2 (by omega) (by omega) e1 (by rw [show 119 + 6 * w + 1 = 120 + 6 * w by omega]; exact et) g.2.2.1 prs' c.2.2.2.1 c.2.2.1 (fun b f σ hb _ kp _ => kk b f σ (IC_kp kp i) (mt_kp_m kp) (by omega) (by omega) (fun j hj => ?_) hb)
  obtain ⟨-, -, q1, q2, q3⟩ := prs' j (by omega)
  unfold mn_r; omega
/-! the model: mend, exactly -/
theorem so_p_ok {h : Int} {r u : Nat → Int} {o : Nat} (h5 : h ≤ 5) : ∀ n : Nat, mt_ok h (so_p h r u o n) := by
  intro n
  induction n with
  | zero => exact mt_str_ok h5
  | succ n ih => exact mt_both_ok h5 ih.2.2.1
theorem s_isOne_x {Q : Int → ml_St → Prop} {h told ts cap x : Int} {tb cl pr sz : Int → Int} {T : Int → Int → Int} {τ0 σ0 : ml_St} {t : Int → Int} {s : Nat} (i : IM h told ts cap tb cl pr sz T σ0) (f0 : ∀ j, j < 215 → σ0 j = τ0 j) (n10 : s ≤ 10) (R : ∀ i : Nat, i < s → σ0 253 i = mn_r t i ∧ 0 ≤ mn_r t i ∧ mn_r t i + 2 ≤ h ∧ (t (2 * i) = 120 ∨ t (2 * i) = 117) ∧ σ0 252 i = if t (2 * i) = 120 then 1 else 0) (k : ∀ r σ, (r = 1 ∧ mn_one h (so_p h (mn_r t) (mn_u t x) 0 s) cl ∨ r = 0 ∧ ¬ mn_one h (so_p h (mn_r t) (mn_u t x) 0 s) cl) → IM h told ts cap tb cl pr sz T σ → (∀ j, j < 215 → σ j = τ0 j) → σ 252 = σ0 252 → σ 253 = σ0 253 → Q r σ) : f_X12_isOne σ0 s x Q := by
  have h2 := i.1.2.2.1
  have h5 := i.1.2.2.2.1
  have hc := i.2.2.1.2.2.2
  have FK : ∀ (c : Int) (σ σ' : ml_St), 16 ≤ c → mt_mf c σ σ' → (IM h told ts cap tb cl pr sz T σ ∧ (∀ j, j < 215 → σ j = τ0 j) ∧ σ 252 = σ0 252 ∧ σ 253 = σ0 253) → (IM h told ts cap tb cl pr sz T σ' ∧ (∀ j, j < 215 → σ' j = τ0 j) ∧ σ' 252 = σ0 252 ∧ σ' 253 = σ0 253) := fun c σ σ' c16 f g => ⟨IM_kq (mt_kq_mf c16 f) g.1, fun j hj => by rw [(mt_kq_mf c16 f).2.2.2 j hj, g.2.1 j hj], by rw [f.1 252 (by omega) (by omega) (by omega) (by omega) (by omega) (by omega) (by omega), g.2.2.1], by rw [f.1 253 (by omega) (by omega) (by omega) (by omega) (by omega) (by omega) (by omega), g.2.2.2]⟩
  have PM : ∀ n : Nat, n ≤ s → so_M h n (so_p h (mn_r t) (mn_u t x) 0 n) := fun n hn => so_p_M h2 h5 0 n (by omega) (fun j _ hj => ⟨(R j (by omega)).2.1, (R j (by omega)).2.2.1⟩)
  -- all signs stand
  have E : ∀ (σ : ml_St), (IM h told ts cap tb cl pr sz T σ ∧ (∀ j, j < 215 → σ j = τ0 j) ∧ σ 252 = σ0 252 ∧ σ 253 = σ0 253) → mt_mv h σ 20 (so_p h (mn_r t) (mn_u t x) 0 s) → f_X12_isOne_u77 Q σ := by
    intro σ g wv
    obtain ⟨hv, v0, v1⟩ := PM s (Nat.le_refl s)
    have ov := so_p_ok (r := mn_r t) (u := mn_u t x) (o := 0) h5 s
    generalize so_p h (mn_r t) (mn_u t x) 0 s = v at *
    have e0 : mt_plo h v cl 0 = w64 (v 20 + mt_cl h v cl) := rfl
    unfold f_X12_isOne_u77
    rw [wv.2.1]
    refine ⟨by omega, by omega, fun _ => s_closing h2 h5 ⟨by omega, by omega⟩ g.1.1.1 hv g.1.2.2.1.2.2.2 (fun e e0 e1 => (wv.1 e e0 e1).1) g.1.2.2.1.2.2.1 (fun σ2 f _ => ?_)⟩
    have g2 : IM h told ts cap tb cl pr sz T σ2 ∧ (∀ j, j < 215 → σ2 j = τ0 j) ∧ σ2 252 = σ0 252 ∧ σ2 253 = σ0 253 := ⟨IM_kq (mt_kq_234 f) g.1, fun j hj => by rw [f j (by omega), g.2.1 j hj], by rw [f 252 (by omega), g.2.2.1], by rw [f 253 (by omega), g.2.2.2]⟩
    refine ⟨fun _ => s_powers h2 h5 (by omega) (by omega) g2.1.1.1 hv (mt_mv_o (fun j j0 j1 => f j (by omega)) wv) g2.1.2.2.1.2.2.2 g2.1.2.2.1.2.2.1 (fun σ5 a b q p => ⟨2900, ?_⟩), fun z => k 0 σ2 (Or.inr ⟨rfl, fun o => z (by rw [← e0]; exact o 0 (by omega))⟩) g2.1 g2.2.1 g2.2.2.1 g2.2.2.2⟩
    have g5 : IM h told ts cap tb cl pr sz T σ5 ∧ (∀ j, j < 215 → σ5 j = τ0 j) ∧ σ5 252 = σ0 252 ∧ σ5 253 = σ0 253 := ⟨IM_kq (mq_f_kq q) g2.1, fun j hj => by rw [(mq_f_kq q).2.2.2 j hj, g2.2.1 j hj], by rw [q.1 252 (by omega) (by omega) (by omega) (by omega) (by omega) (by omega), g2.2.2.1], by rw [q.1 253 (by omega) (by omega) (by omega) (by omega) (by omega) (by omega), g2.2.2.2]⟩
    obtain ⟨p1, p2, p3, p4, p5, p6, p7, p8, -⟩ := p
    have L : ∀ (N : Nat) (j : Int), 1 ≤ j → j ≤ 2 * b - a + 2 → 2 * b - a + 2 - j < N → (∀ i : Nat, (i : Int) + 1 < j → mt_plo h v cl i = 1) → f_X12_isOne_u107 Q (f_X12_isOne_u126 Q) (f_X12_isOne_u134 Q) N σ5 j := by
      intro N
      induction N with
      | zero => intro j j0 j1 hN; omega
      | succ N ih =>
        intro j j0 j1 hN o
        unfold f_X12_isOne_u107
        rw [p5]
        refine fun _ => ⟨fun z => ?_, fun q => ⟨by omega, by omega, ?_⟩⟩
        · unfold f_X12_isOne_u134
          exact k 1 σ5 (Or.inl ⟨rfl, mn_one_n (by omega) h5 hv ov hc v0 (by omega) p1 p2 p8 (fun i hi => o i (by omega))⟩) g5.1 g5.2.1 g5.2.2.1 g5.2.2.2
        · have gg := p7 (j - 1).toNat (by omega)
          rw [show (((j - 1).toNat : Nat) : Int) + 1 = j by omega] at gg
          rw [gg]
          refine fun _ => ⟨fun z => ⟨mt_I (by omega) (by omega), fun y e => ?_⟩, fun z => ?_⟩
          · subst e
            refine ih (j + 1) (by omega) (by omega) (by omega) (fun i hi => ?_)
            by_cases w : i = (j - 1).toNat
            · rw [w]; exact z
            · exact o i (by omega)
          · unfold f_X12_isOne_u126
            exact k 0 σ5 (Or.inr ⟨rfl, fun c => z (c (j - 1).toNat (by omega))⟩) g5.1 g5.2.1 g5.2.2.1 g5.2.2.2
    exact L 2900 1 (by omega) (by omega) (by omega) (fun i hi => by omega)
  have L : ∀ (N : Nat) (j : Nat) (σ : ml_St), j ≤ s → s - j < N → (IM h told ts cap tb cl pr sz T σ ∧ (∀ j, j < 215 → σ j = τ0 j) ∧ σ 252 = σ0 252 ∧ σ 253 = σ0 253) → mt_mv h σ 20 (so_p h (mn_r t) (mn_u t x) 0 j) → f_X12_isOne_u8 Q (f_X12_isOne_u77 Q) N σ s x j := by
    intro N
    induction N with
    | zero => intro j σ j1 hN; omega
    | succ N ih =>
      intro j σ j1 hN g wv
      have U : ∀ s2, j < s → (if s2 = 0 then 1 else 0) = mn_u t x j → f_X12_isOne_u44 Q (f_X12_isOne_u8 Q (f_X12_isOne_u77 Q) N) σ s x j 21 s2 := fun s2 jn hu => by
        unfold f_X12_isOne_u44
        obtain ⟨r0, r1, r2, -⟩ := R j jn
        rw [g.2.2.2, r0]
        obtain ⟨hv, -, -⟩ := PM j (by omega)
        refine ⟨by omega, by omega, fun _ => s_sign h2 h5 ⟨by omega, by omega⟩ g.1.1.1 r1 r2 (fun σ2 p2 w2 => ?_)⟩
        rw [hu] at w2
        have g2 := FK 21 σ σ2 (by omega) p2 g
        have sM : mt_M h (mt_sgn h (mn_r t j) (mn_u t x j)) := mt_sgn_M h5 r1 r2
        refine s_lays h2 h5 ⟨by omega, by omega⟩ ⟨by omega, by omega⟩ ⟨by omega, by omega⟩ g2.1.1.1 hv sM (mt_mv_f h5 p2 (by omega) wv) w2 (by omega) (by omega) (fun σ3 p3 w3 => ?_)
        have g3 := FK 22 σ2 σ3 (by omega) p3 g2
        refine s_copies h2 h5 ⟨by omega, by omega⟩ ⟨by omega, by omega⟩ (by omega) g3.1.1.1 w3 (fun σ4 p4 w4 => ⟨mt_I (by omega) (by omega), fun y e => ?_⟩)
        have e : y = ((j + 1 : Nat) : Int) := by omega
        rw [e]
        refine ih (j + 1) σ4 (by omega) (by omega) (FK 20 σ3 σ4 (by omega) p4 g3) ?_
        have eq : so_p h (mn_r t) (mn_u t x) 0 (j + 1) = mt_both h (so_p h (mn_r t) (mn_u t x) 0 j) (mt_sgn h (mn_r t j) (mn_u t x j)) := by
          show mt_both h _ (mt_sgn h (mn_r t (0 + j)) (mn_u t x (0 + j))) = _
          rw [Nat.zero_add]
        rw [eq]; exact w4
      have U2 : ∀ s2, j < s → ((s2 = 1 ∧ t (2 * j) = 120) ∨ (s2 = 0 ∧ t (2 * j) = 117)) → f_X12_isOne_u31 Q (f_X12_isOne_u8 Q (f_X12_isOne_u77 Q) N) σ s x j 21 s2 := fun s2 jn hs2 => by
        unfold f_X12_isOne_u31
        refine s_has (fun b1 _ => ⟨fun z => U _ jn ?_, fun z => U _ jn ?_⟩) (fun b0 _ => ⟨fun z => U _ jn ?_, fun z => U _ jn ?_⟩) <;> unfold mn_u
        · rw [if_pos rfl, if_pos (by omega)]
        · rw [if_neg (by omega), if_neg (by omega)]
        · rw [if_pos rfl, if_pos (by omega)]
        · rw [if_neg (by omega), if_neg (by omega)]
      unfold f_X12_isOne_u8
      refine ⟨fun z => ?_, fun q => ⟨by omega, by omega, ?_⟩⟩
      · have : j = s := by omega
        rw [this] at wv
        exact E σ g wv
      · obtain ⟨-, -, -, r3, r4⟩ := R j (by omega)
        rw [g.2.2.1, r4]
        refine fun _ => ⟨fun z => U2 _ (by omega) ?_, fun z => U2 _ (by omega) ?_⟩
        · by_cases w : t (2 * j) = 120
          · rw [if_pos w] at z; exact absurd rfl z
          · exact Or.inr ⟨rfl, r3.resolve_left w⟩
        · by_cases w : t (2 * j) = 120
          · exact Or.inl ⟨rfl, w⟩
          · rw [if_neg w] at z; omega
  unfold f_X12_isOne f_X12_isOne_u0
  refine s_straight h2 h5 ⟨by omega, by omega⟩ i.1.1 (fun σ1 p1 w1 => ⟨12, ?_⟩)
  have g := L 12 0 σ1 (by omega) (by omega) (FK 20 σ0 σ1 (by omega) p1 ⟨i, f0, rfl, rfl⟩) w1
  exact g
def mb_sz (n : Nat) : Bool := mb_fc (mb_sw n) (fun k => decide (k ≤ 10) && (n == 0 || mb_sw (n &&& (n - 1)) + 1 == k))
theorem mb_sz_1 : ∀ a, a < 4 → ∀ b, b < 256 → mb_sz (256 * a + b) = true := by decide +kernel
theorem mb_sz_e {n : Nat} (h : n < 1024) : mb_sw n ≤ 10 ∧ (n ≠ 0 → mb_sw (n &&& (n - 1)) + 1 = mb_sw n) := by
  have := mb_sz_1 (n / 256) (by omega) (n % 256) (by omega)
  rw [show 256 * (n / 256) + n % 256 = n by omega] at this
  unfold mb_sz at this
  rw [mb_fc_e, Bool.and_eq_true, Bool.or_eq_true] at this
  refine ⟨of_decide_eq_true this.1, fun z => ?_⟩
  rcases this.2 with q | q
  · exact absurd (by simpa using q) z
  · simpa using q
theorem s_sizeOf_x {Q : Int → ml_St → Prop} {x : Nat} {σ : ml_St} (x1 : x < 1024) (k : Q (mb_sw x) σ) : f_X12_sizeOf σ x Q := by
  have z0 : mb_sw 0 = 0 := by decide +kernel
  have L : ∀ (N : Nat) (m : Nat) (s : Int), m < 1024 → m < N → 0 ≤ s → s + mb_sw m = mb_sw x → f_X12_sizeOf_u4 Q (f_X12_sizeOf_u20 Q) N σ s m := by
    intro N
    induction N with
    | zero => intro m s _ hN; omega
    | succ N ih =>
      intro m s m1 hN s0 hs
      have b := (mb_sz_e x1).1
      unfold f_X12_sizeOf_u4
      refine ⟨fun z => ?_, fun q => ⟨mt_I (by omega) (by omega), fun y2 e2 => ⟨mt_I (by omega) (by omega), fun y4 e4 => ?_⟩⟩⟩
      · unfold f_X12_sizeOf_u20
        have : m = 0 := by omega
        rw [this, z0] at hs
        rw [show s = (mb_sw x : Int) by omega]; exact k
      · obtain ⟨m', rfl⟩ : ∃ m', m = m' + 1 := ⟨m - 1, by omega⟩
        have c := (mb_sz_e m1).2 (by omega)
        rw [show m' + 1 - 1 = m' by omega] at c
        rw [show ((m' + 1 : Nat) : Int) - 1 = (m' : Int) by omega, mb_and (by omega) (by omega)] at e4
        have := Nat.and_le_right (n := m' + 1) (m := m')
        rw [e4, e2]
        exact ih _ _ (by omega) (by omega) (by omega) (by omega)
  unfold f_X12_sizeOf f_X12_sizeOf_u0
  exact ⟨x + 1, L (x + 1) x 0 x1 (by omega) (by omega) (by omega)⟩
theorem m_mend_x {Q : Int → ml_St → Prop} {h told ts cap w : Int} {tb cl pr sz : Int → Int} {T : Int → Int → Int} {τ : ml_St} (i : IM h told ts cap tb cl pr sz T τ) (k0 : ¬ (0 ≤ w ∧ w < told ∧ mt_pl (T w) (sz w).toNat ≠ 0 ∧ sz w ≤ 20) → Q (-1) τ) (k1 : 0 ≤ w → w < told → mt_pl (T w) (sz w).toNat ≠ 0 → sz w ≤ 20 → ∀ (s : Nat) b f σ, IM h told ts cap tb cl pr sz T σ → (∀ j, j < 215 → σ j = τ j) → sz w / 2 = s → mn_b (fun m => mn_one h (so_p h (mn_r (T w)) (mn_u (T w) m) 0 s) cl) (2 ^ s) b f → Q b σ) : f_X12_mend τ w Q := by
  have t16 := i.1.2.2.2.2.2
  have h2 := i.1.2.2.1
  have h5 := i.1.2.2.2.1
  unfold f_X12_mend f_X12_mend_u0
  unfold f_X12_mend_u27
  refine m_isWord i (fun w0 w1 _ => ⟨fun z => absurd z (by omega), fun _ => ?_⟩) (fun q _ => ⟨fun _ => k0 (fun y => q ⟨y.1, y.2.1⟩), fun z => absurd rfl z⟩)
  obtain ⟨g, e1, et⟩ := (i.2.2.2.2 w w0 w1).1
  have g1 := g.1
  have g2 := g.2.1
  refine s_isPlain (t := T w) w0 (by omega) (by omega) g2 e1 et (fun z _ => ⟨fun z => absurd z (by omega), fun _ => ⟨w0, by omega, ?_⟩⟩) (fun z _ => ⟨fun _ => k0 (fun y => y.2.2.1 z), fun z => absurd rfl z⟩)
  rw [e1]
  refine fun _ => ⟨fun s20 => ⟨w0, by omega, fun _ => ⟨by omega, ?_⟩⟩, fun z2 => k0 (fun y => z2 y.2.2.2)⟩
  have hall := mt_pl_all (t := T w) (sz w).toNat z
  have prs := mt_pairs (t := T w) (n := sz w) (h := h) (w := w) (by omega) (fun j j0 j1 => by have := hall j.toNat (by omega); rw [show ((j.toNat : Nat) : Int) = j by omega] at this; exact this) _ 0 0 1 (Int.le_refl 0) g.2.2.2 (by omega) (by omega)
  have prs' : ∀ k : Nat, 2 * (k : Int) < sz w → (T w (2 * k) = 120 ∨ T w (2 * k) = 117) ∧ 2 * (k : Int) + 1 < sz w ∧ 48 ≤ T w (2 * k + 1) ∧ T w (2 * k + 1) ≤ 57 ∧ T w (2 * k + 1) - 48 ≤ h - 2 := fun k hk => by
    have := prs k (by omega)
    rw [show (0 : Int) + 2 * k = 2 * k by omega] at this
    exact this
  have td : Int.tdiv (sz w) 2 = sz w / 2 := Int.tdiv_eq_ediv_of_nonneg (by omega)
  rw [td]
  obtain ⟨s, hs⟩ : ∃ s : Nat, sz w / 2 = s := ⟨(sz w / 2).toNat, by omega⟩
  have n10 : s ≤ 10 := by omega
  refine ⟨mt_I (by omega) (by omega), fun n en => ⟨12, ?_⟩⟩
  rw [en, hs]
  have kk := fun b f σ a c => k1 w0 w1 z s20 s b f σ a c hs
  clear k0 k1
  generalize hP : (fun m : Nat => mn_one h (so_p h (mn_r (T w)) (mn_u (T w) m) 0 s) cl) = P at kk
  have p2 : (2 : Nat) ^ s ≤ 2 ^ 10 := Nat.pow_le_pow_right (by omega) n10
  have es : b_shl 1 (s : Int) = ((2 ^ s : Nat) : Int) := mb_shl (by omega)
  have S : ∀ (N : Nat) (m : Nat) (b f : Int) (σ : ml_St), m ≤ 2 ^ s → 2 ^ s - m < N → ((b = -2 ∧ f = 11) ∨ (0 ≤ b ∧ b < m ∧ f = mb_sw b.toNat)) → mn_b P m b f → IM h told ts cap tb cl pr sz T σ → (∀ j, j < 215 → σ j = τ j) → (∀ i : Nat, i < s → σ 253 i = mn_r (T w) i ∧ σ 252 i = if T w (2 * i) = 120 then 1 else 0) → f_X12_mend_u110 Q (f_X12_mend_u153 Q) N σ s b m := by
    intro N
    induction N with
    | zero => intro m b f σ m1 hN; omega
    | succ N ih =>
      intro m b f σ m1 hN hb hB i' f' R
      have U : ∀ (b' f9 : Int) σ, ((b' = -2 ∧ f9 = 11) ∨ (0 ≤ b' ∧ b' < (m : Int) + 1 ∧ f9 = mb_sw b'.toNat)) → mn_b P (m + 1) b' f9 → m < 2 ^ s → IM h told ts cap tb cl pr sz T σ → (∀ j, j < 215 → σ j = τ j) → (∀ i : Nat, i < s → σ 253 i = mn_r (T w) i ∧ σ 252 i = if T w (2 * i) = 120 then 1 else 0) → f_X12_mend_u147 Q (f_X12_mend_u110 Q (f_X12_mend_u153 Q) N) σ s b' m := fun b' f9 σ hb hB mm i' f' R => by
        unfold f_X12_mend_u147
        refine ⟨mt_I (by omega) (by omega), fun y e => ?_⟩
        have e : y = ((m + 1 : Nat) : Int) := by omega
        rw [e]
        exact ih (m + 1) b' f9 σ (by omega) (by omega) (by omega) hB i' f' R
      have V : m < 2 ^ s → (mb_sw m : Int) < f → f_X12_mend_u134 Q (f_X12_mend_u110 Q (f_X12_mend_u153 Q) N) σ s b m := fun mm lt => by
        unfold f_X12_mend_u134
        refine s_isOne_x (t := T w) i' f' n10 (fun j hj => ?_) (fun r σ1 hr i1 f1 e252 e253 _ => ?_)
        · obtain ⟨p1, p2, p3, p4, p5⟩ := prs' j (by omega)
          refine ⟨(R j hj).1, by unfold mn_r; omega, by unfold mn_r; omega, p1, (R j hj).2⟩
        · have ePs : P m ↔ mn_one h (so_p h (mn_r (T w)) (mn_u (T w) m) 0 s) cl := by rw [← hP]
          rcases hr with ⟨r1, o⟩ | ⟨r1, o⟩
          · exact ⟨fun z => absurd z (by omega), fun _ => U m (mb_sw m) σ1 (Or.inr ⟨by omega, by omega, by rw [show ((m : Int)).toNat = m by omega]⟩) ⟨b, f, hB, Or.inl ⟨lt, ePs.2 o, rfl, rfl⟩⟩ mm i1 f1 (by rw [e252, e253]; exact R)⟩
          · exact ⟨fun _ => U b f σ1 (by omega) ⟨b, f, hB, Or.inr ⟨fun z => o (ePs.1 z.2), rfl, rfl⟩⟩ mm i1 f1 (by rw [e252, e253]; exact R), fun z => absurd r1 z⟩
      unfold f_X12_mend_u110
      rw [es]
      refine ⟨fun c => ?_, fun q => ⟨fun b0 => V (by omega) ?_, fun b0 => ?_⟩⟩
      · unfold f_X12_mend_u153
        have : m = 2 ^ s := by omega
        rw [this] at hB
        exact kk b f σ i' f' hB
      · have := (mb_sz_e (n := m) (by omega)).1
        omega
      · obtain ⟨c1, c2, c3⟩ := hb.resolve_left (fun z => by omega)
        rw [show b = ((b.toNat : Nat) : Int) by omega]
        refine s_sizeOf_x (by omega) (fun _ => s_sizeOf_x (by omega) (fun _ => ?_))
        rw [show ((b.toNat : Nat) : Int) = b by omega]
        exact ⟨fun z => U b f σ (by omega) ⟨b, f, hB, Or.inr ⟨fun y => by omega, rfl, rfl⟩⟩ (by omega) i' f' R, fun z => V (by omega) (by omega)⟩
  -- the signs are read
  have A : ∀ (N : Nat) (m : Nat) (σ : ml_St), m ≤ s → s - m < N → IM h told ts cap tb cl pr sz T σ → (∀ j, j < 215 → σ j = τ j) → (∀ i : Nat, i < m → σ 253 i = mn_r (T w) i ∧ σ 252 i = if T w (2 * i) = 120 then 1 else 0) → f_X12_mend_u40 Q (f_X12_mend_u104 Q) N σ w s m := by
    intro N
    induction N with
    | zero => intro m σ m1 hN; omega
    | succ N ih =>
      intro m σ m1 hN i' f' R
      unfold f_X12_mend_u40
      refine ⟨fun q => ?_, fun q => ⟨mt_I (by omega) (by omega), mt_I (by omega) (by omega), mt_I (by omega) (by omega), by omega, by omega, ?_⟩⟩
      · unfold f_X12_mend_u104
        have : m = s := by omega
        rw [this] at R
        have := S (2 ^ s + 1) 0 (-2) 11 σ (Nat.zero_le _) (by rw [Nat.sub_zero]; exact Nat.lt_succ_self _) (Or.inl ⟨rfl, rfl⟩) ⟨rfl, rfl⟩ i' f' R
        exact ⟨_, this⟩
      have et' := (i'.2.2.2.2 w w0 w1).1.2.2
      obtain ⟨p1, p2, p3, p4, p5⟩ := prs' m (by omega)
      have U : ∀ v, v = (if T w (2 * m) = 120 then 1 else 0) → f_X12_mend_u73 Q (f_X12_mend_u40 Q (f_X12_mend_u104 Q) N) σ w s m m v := fun v hv => by
        unfold f_X12_mend_u73
        refine ⟨by omega, by omega, fun σ1 s1 => ⟨mt_I (by omega) (by omega), mt_I (by omega) (by omega), mt_I (by omega) (by omega), mt_I (by omega) (by omega), by omega, by omega, ?_⟩⟩
        have e218 : σ1 218 (100 * w + 2 * (m : Int) + 1) = T w (2 * m + 1) := by
          rw [s1, ml_up_k (by omega), show 100 * w + 2 * (m : Int) + 1 = 100 * w + (2 * m + 1) by omega]
          exact et' _ (by omega) (by omega)
        rw [e218]
        refine fun _ => ⟨mt_I (by omega) (by omega), by omega, by omega, fun σ8 s8 => ⟨mt_I (by omega) (by omega), fun y e => ?_⟩⟩
        have e : y = ((m + 1 : Nat) : Int) := by omega
        rw [e]
        have f8 : ∀ j, j ≠ 252 → j ≠ 253 → σ8 j = σ j := fun j h1 h2 => by rw [s8, ml_up_k h2, s1, ml_up_k h1]
        refine ih (m + 1) σ8 (by omega) (by omega) (IM_kq (mt_kq_o (fun j hj => f8 j (by omega) (by omega)) (fun b _ _ => by rw [f8 215 (by omega) (by omega)])) i') (fun j hj => by rw [f8 j (by omega) (by omega), f' j hj]) (fun x x1 => ?_)
        have a253 : σ8 253 x = if x = m then T w (2 * m + 1) - 48 else σ 253 x := by
          rw [s8]
          by_cases z : x = m
          · rw [if_pos z, z, ml_up_same]
          · rw [if_neg z, ml_up_i (by omega), s1, ml_up_k (by omega)]
        have a252 : σ8 252 x = if x = m then v else σ 252 x := by
          rw [s8, ml_up_k (by omega), s1]
          by_cases z : x = m
          · rw [if_pos z, z, ml_up_same]
          · rw [if_neg z, ml_up_i (by omega)]
        rw [a253, a252]
        by_cases z : x = m
        · subst z
          rw [if_pos rfl, if_pos rfl]
          exact ⟨rfl, hv⟩
        · rw [if_neg z, if_neg z]; exact R x (by omega)
      rw [et' (2 * (m : Int)) (by omega) (by omega)]
      exact fun _ => ⟨fun z => U 0 (by rw [if_neg z]), fun z => U 1 (by rw [if_pos z])⟩
  exact A 12 0 τ (by omega) (by omega) i (fun _ _ => rfl) (fun x x1 => absurd x1 (by omega))
/-! mend: both sides answer the same -/
theorem ms_mend {h : Int} {t cl : Int → Int} {s : Nat} {b b2 f f2 : Int} (h2 : 2 ≤ h) (h5 : h ≤ 5) (s10 : s ≤ 10) (hc : mt_M h cl) (rr : ∀ j, j < s → 0 ≤ mn_r t j ∧ mn_r t j + 2 ≤ h) (x : mn_b (fun m => mn_one h (so_q h (mn_r t) (mn_u t m) s s) cl) (2 ^ s) b f) (y : mn_b (fun m => mn_one h (so_p h (mn_r t) (mn_u t m) 0 s) cl) (2 ^ s) b2 f2) : b = b2 := by
  refine (mn_b_u (2 ^ s) b f b2 f2 (fun m hm => ?_) x y).1
  have q := so_qp (u := mn_u t m) h2 h5 s (by omega) rr s (Nat.le_refl s)
  rw [show s - s = 0 by omega] at q
  exact mn_one_c (by omega) h5 (so_q_M (u := mn_u t m) h2 h5 s s (by omega) (Nat.le_refl s) rr).1 hc q
