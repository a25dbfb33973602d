/-! the class: what study finds, exactly, where a power comes again among the first 64 -/
def mq_q (h : Int) (v cl : Int → Int) (a n : Nat) (σ : ml_St) : Prop := a < n ∧ n ≤ 63 ∧ σ 46 4 = a + 1 ∧ σ 46 5 = n - a ∧ σ 46 6 = w64 (mt_plo h v cl n - mt_plo h v cl a) ∧ (∀ i : Nat, i ≤ n → σ 48 (i + 1) = mt_plo h v cl i) ∧ mt_eq h (mt_pp h v a) (mt_pp h v n) ∧ mq_d h v n
theorem mq_u {h : Int} {v : Int → Int} {a n a' n' : Nat} (h1 : a < n) (e : mt_eq h (mt_pp h v a) (mt_pp h v n)) (d : mq_d h v n) (h1' : a' < n') (e' : mt_eq h (mt_pp h v a') (mt_pp h v n')) (d' : mq_d h v n') : a = a' ∧ n = n' := by
  have sy : ∀ {f g : Int → Int}, mt_eq h f g → mt_eq h g f := fun e x x0 x1 => (e x x0 x1).symm
  have tr : ∀ {f g k : Int → Int}, mt_eq h f g → mt_eq h g k → mt_eq h f k := fun e e2 x x0 x1 => (e x x0 x1).trans (e2 x x0 x1)
  have n1 : n = n' := by
    rcases Nat.lt_trichotomy n n' with z | z | z
    · exact absurd e (d' a n h1 z)
    · exact z
    · exact absurd e' (d a' n' h1' z)
  subst n1
  refine ⟨?_, rfl⟩
  rcases Nat.lt_trichotomy a a' with z | z | z
  · exact absurd (tr e (sy e')) (d a a' z h1')
  · exact z
  · exact absurd (tr e' (sy e)) (d a' a z h1)
theorem mt_nm_c {f g : Int → Int} : ∀ (k e o s : Nat), (∀ x : Nat, e ≤ x → x < e + k → f x = g x) → mt_nm f k e o s = mt_nm g k e o s := by
  intro k
  induction k with
  | zero => intro e o s _; rfl
  | succ k ih =>
    intro e o s h
    have i := fun o s => ih (e + 1) o s (fun x h1 h2 => h x (by omega) (by omega))
    unfold mt_nm
    rw [h e (by omega) (by omega), i, i]
theorem mt_num_c {h : Int} {f g : Int → Int} (h2 : 2 ≤ h) (h5 : h ≤ 5) (hf : mt_M h f) (e : mt_eq h f g) : mt_num h f = mt_num h g := by
  unfold mt_num
  exact mt_nm_c _ _ _ _ (fun x _ h2 => e x (by omega) (by omega))
theorem s_study_x {Q : ml_St → Prop} {p h : Int} {σ0 : ml_St} {v cl : Int → Int} (h2 : 2 ≤ h) (h5 : h ≤ 5) (pd : p + 3 ≤ 46 ∨ 55 ≤ p) (p5 : 5 < p) (hv : mt_M h v) (wv : mt_wv h σ0 p v) (hc : mt_M h cl) (ec : mt_eq h (σ0 5) cl) (nb : ¬ mq_d h v 64) (k : ∀ σ (a n : Nat), mt_f46 σ0 σ → mq_q h v cl a n σ → Q σ) : f_X6_study σ0 p h Q := by
  have M := fun n => mt_pp_M h5 hv n
  have NE : ∀ i j : Nat, mt_num h (mt_pp h v i) = mt_num h (mt_pp h v j) → mt_eq h (mt_pp h v i) (mt_pp h v j) := fun i j => mt_num_inj h2 h5 (M i) (M j)
  have EN : ∀ i j : Nat, mt_eq h (mt_pp h v i) (mt_pp h v j) → mt_num h (mt_pp h v i) = mt_num h (mt_pp h v j) := fun i j e => mt_num_c h2 h5 (M i) e
  have KE : ∀ (σ : ml_St) (a n : Nat), mt_f46 σ0 σ → a < n → n ≤ 63 → σ 46 4 = a + 1 → σ 46 5 = n - a → (∀ i : Nat, i ≤ n → σ 48 (i + 1) = mt_plo h v cl i) → mt_eq h (mt_pp h v a) (mt_pp h v n) → mq_d h v n → f_X6_study_u168 Q p σ := by
    intro σ a n f an n6 e1 e2 el ee dd
    unfold f_X6_study_u168
    have x1 := el n (Nat.le_refl n)
    have x2 := el a (by omega)
    rw [e1, e2, show (a : Int) + 1 + (n - a) = n + 1 by omega, x1, x2]
    refine fun _ _ => ⟨mt_i (by omega) (by omega), by omega, by omega, fun _ _ => ⟨by omega, by omega, fun _ σ8 s8 => ?_⟩⟩
    exact k σ8 a n (mt_f46_t f (by rw [s8]; exact mt_f46_up (by omega) (by omega))) ⟨an, n6, by rw [s8, ml_up_i (by omega), e1], by rw [s8, ml_up_i (by omega), e2], by rw [s8, ml_up_same], fun i hi => by rw [s8, ml_up_k (by omega)]; exact el i hi, ee, dd⟩
  have L : ∀ (N : Nat) (n : Nat) (σ : ml_St) (u : Int → Int), n ≤ 63 → 65 - (n : Int) < N → mt_f46 σ0 σ → (n = 0 → u = mt_pp h v 0) → (n ≠ 0 → u = mt_pp h v (n - 1)) → mt_wv h σ 49 u → (∀ i : Nat, i < n → σ 48 (i + 1) = mt_plo h v cl i) → (∀ i : Nat, i < n → σ 47 (i + 1) = mt_num h (mt_pp h v i)) → mq_d h v n → f_X6_study_u24 Q (f_X6_study_u168 Q p) p N σ h 0 (n + 1) := by
    intro N
    induction N with
    | zero => intro n σ u n1 hN; omega
    | succ N ih =>
      intro n σ u n6 hN f hu0 hu1 wu el en dd
      unfold f_X6_study_u24
      refine ⟨fun c => absurd c (by omega), fun c => ⟨fun c => absurd rfl c, fun _ => ?_⟩⟩
      have U66 : ∀ (σ : ml_St), mt_f46 σ0 σ → mt_wv h σ 49 (mt_pp h v n) → (∀ i : Nat, i < n → σ 48 (i + 1) = mt_plo h v cl i) → (∀ i : Nat, i < n → σ 47 (i + 1) = mt_num h (mt_pp h v i)) → f_X6_study_u66 Q (f_X6_study_u24 Q (f_X6_study_u168 Q p) p N) p σ h 0 (n + 1) := by
        intro σ f wu el en
        unfold f_X6_study_u66
        refine s_number h2 h5 (M n) (mt_eq_wa wu).1 (fun _ => ⟨by omega, by omega, fun σ2 s2 _ => ?_⟩)
        have k2 : ∀ j, j ≠ 47 → σ2 j = σ j := fun j hj => by rw [s2, ml_up_k hj]
        refine s_loopsBy (α := mt_pp h v n) (β := cl) h2 h5 (M n) hc (fun e e0 e1 => by rw [k2 _ (by omega)]; exact (wu.1 e e0 e1).1) (fun e e0 e1 => by rw [k2 _ (by omega), f 5 (by omega)]; exact ec e e0 e1) ?_
        refine fun _ => ⟨by omega, by omega, fun σ6 s6 => ⟨n + 1, ?_⟩⟩
        have w20 : σ2 49 2 = mt_pp h v n 20 := by rw [k2 49 (by omega)]; exact wu.2.1
        rw [w20] at s6
        have k6 : ∀ j, j ≠ 47 → j ≠ 48 → σ6 j = σ j := fun j h1 h3 => by rw [s6, ml_up_k h3, k2 j h1]
        have f6 : mt_f46 σ0 σ6 := fun j hj => by rw [k6 j (by omega) (by omega), f j hj]
        have w6 : mt_wv h σ6 49 (mt_pp h v n) := mt_wv_eq (k6 _ (by omega) (by omega)) (k6 _ (by omega) (by omega)) (k6 _ (by omega) (by omega)) wu
        have l6 : ∀ i : Nat, i < n + 1 → σ6 48 (i + 1) = mt_plo h v cl i := fun i hi => by
          rw [s6]
          by_cases z : i = n
          · subst z; rw [ml_up_same]; rfl
          · rw [ml_up_i (by omega), k2 48 (by omega)]; exact el i (by omega)
        have n6' : ∀ i : Nat, i < n + 1 → σ6 47 (i + 1) = mt_num h (mt_pp h v i) := fun i hi => by
          rw [s6, ml_up_k (by omega), s2]
          by_cases z : i = n
          · subst z; rw [ml_up_same]
          · rw [ml_up_i (by omega)]; exact en i (by omega)
        have I : ∀ (M' : Nat) (j : Nat), j ≤ n → n - j < M' → (∀ i : Nat, i < j → ¬ mt_eq h (mt_pp h v i) (mt_pp h v n)) → f_X6_study_u109 Q (f_X6_study_u162 Q (f_X6_study_u24 Q (f_X6_study_u168 Q p) p N) p) p M' σ6 h 0 (n + 1) (j + 1) := by
          intro M'
          induction M' with
          | zero => intro j j1 hM; omega
          | succ M' ihM =>
            intro j j1 hM dj
            unfold f_X6_study_u109
            refine ⟨fun c3 => ?_, fun c3 => ⟨fun c => absurd rfl c, fun _ => ⟨by omega, by omega, fun _ => ⟨by omega, by omega, fun _ => ?_⟩⟩⟩⟩
            · have ej : j = n := by omega
              subst ej
              have d' : mq_d h v (j + 1) := fun x y xy yj => by
                by_cases z : y = j
                · subst z; exact dj x xy
                · exact dd x y xy (by omega)
              have j6 : j ≠ 63 := fun z => nb (by rw [← show j + 1 = 64 by omega]; exact d')
              unfold f_X6_study_u162
              refine ⟨mt_i (by omega) (by omega), fun y1 e1 => ?_⟩
              have e1 : y1 = ((j + 1 : Nat) : Int) + 1 := by omega
              subst e1
              exact ih (j + 1) σ6 (mt_pp h v j) (by omega) (by omega) f6 (fun z => absurd z (by omega)) (fun _ => by rw [show j + 1 - 1 = j by omega]) w6 l6 n6' d'
            · rw [n6' j (by omega), n6' n (by omega)]
              refine ⟨fun ne => ?_, fun eq σ7 s7 => ⟨mt_i (by omega) (by omega), fun σ8 s8 => ?_⟩⟩
              · unfold f_X6_study_u156
                refine ⟨mt_i (by omega) (by omega), fun y1 e1 => ?_⟩
                have e1 : y1 = ((j + 1 : Nat) : Int) + 1 := by omega
                subst e1
                refine ihM (j + 1) (by omega) (by omega) (fun i hi => ?_)
                by_cases z : i = j
                · subst z; exact fun e => ne (by rw [EN i n e])
                · exact dj i (by omega)
              · have ee := NE j n (by omega)
                unfold f_X6_study_u156
                refine ⟨mt_i (by omega) (by omega), fun y1 e1 => ?_⟩
                have k8 : ∀ j, j ≠ 46 → σ8 j = σ6 j := fun j hj => by rw [s8, ml_up_k hj, s7, ml_up_k hj]
                have fin : f_X6_study_u162 Q (f_X6_study_u24 Q (f_X6_study_u168 Q p) p N) p σ8 h 1 (n + 1) := by
                  unfold f_X6_study_u162
                  refine ⟨mt_i (by omega) (by omega), fun y2 e2 => ?_⟩
                  obtain ⟨N', rfl⟩ : ∃ N', N = N' + 1 := ⟨N - 1, by omega⟩
                  have fk : f_X6_study_u168 Q p σ8 := KE σ8 j n (fun x hx => by rw [k8 x (by omega), f6 x hx]) (by omega) (by omega) (by rw [s8, ml_up_i (by omega), s7, ml_up_same]) (by rw [s8, ml_up_same]; omega) (fun i hi => by rw [k8 48 (by omega)]; exact l6 i (by omega)) ee dd
                  unfold f_X6_study_u24
                  exact ⟨fun _ => fk, fun _ => ⟨fun _ => fk, fun z => absurd z (by omega)⟩⟩
                obtain ⟨M'', rfl⟩ : ∃ M'', M' = M'' + 1 := ⟨M' - 1, by omega⟩
                unfold f_X6_study_u109
                exact ⟨fun _ => fin, fun _ => ⟨fun _ => fin, fun z => absurd z (by omega)⟩⟩
        have := I (n + 1) 0 (by omega) (by omega) (fun i hi => absurd hi (by omega))
        exact this
      refine ⟨fun c3 => ?_, fun c3 => ?_⟩
      · have n0 : n = 0 := by omega
        have := hu0 n0
        subst n0
        rw [this] at wu
        exact U66 σ f wu el en
      · obtain ⟨n', rfl⟩ : ∃ n', n = n' + 1 := ⟨n - 1, by omega⟩
        have eu := hu1 (by omega)
        rw [show n' + 1 - 1 = n' by omega] at eu
        rw [eu] at wu
        have wv' : mt_wv h σ p v := mt_wv_eq (f _ (by omega)) (f _ (by omega)) (f _ (by omega)) wv
        refine s_beBoth h2 h5 (by omega) (by omega) (M n') hv wu wv' (fun σ4 f4 w4 => s_beLike h5 (by omega) w4 (fun σ5 f5 w5 => ?_))
        have ff : mt_f46 σ σ5 := mt_f46_t (mt_f46_fr (by omega) (by omega) f4) (mt_f46_fr (by omega) (by omega) f5)
        have o : ∀ j, j = 47 ∨ j = 48 → σ5 j = σ j := fun j hj => by rw [f5 j (by omega) (by omega) (by omega), f4 j (by omega) (by omega) (by omega)]
        exact U66 σ5 (mt_f46_t f ff) w5 (fun i hi => by rw [o 48 (by omega)]; exact el i hi) (fun i hi => by rw [o 47 (by omega)]; exact en i hi)
  unfold f_X6_study f_X6_study_u0
  intro σ1 s1 σ2 s2
  have f2 : mt_f46 σ0 σ2 := by rw [s2, s1]; exact mt_f46_t (mt_f46_up (by omega) (by omega)) (mt_f46_up (by omega) (by omega))
  refine s_beLike h5 (by omega) (mt_wv_eq (f2 _ (by omega)) (f2 _ (by omega)) (f2 _ (by omega)) wv) (fun σ3 f3 w3 => ⟨66, ?_⟩)
  have := L 66 0 σ3 v (by omega) (by omega) (mt_f46_t f2 (mt_f46_fr (by omega) (by omega) f3)) (fun _ => rfl) (fun z => absurd rfl z) w3 (fun i hi => absurd hi (by omega)) (fun i hi => absurd hi (by omega)) (fun i j _ hj => absurd hj (by omega))
  exact this
/-- some power comes again among the first 64 -/
def mq_64 : Prop := ∀ (h : Int) (v : Int → Int), 2 ≤ h → h ≤ 5 → mt_M h v → ¬ mq_d h v 64
theorem c_power_x {Q : Int → ml_St → Prop} {h told ts cap w x : Int} {tb cl pr sz : Int → Int} {T : Int → Int → Int} {σ0 : ml_St} (nb : mq_64) (i : IC h told ts cap tb cl pr sz T σ0) (k1 : mt_md told (mt_mk h T sz) w → 0 ≤ x → x ≤ 1 → ∀ σ (a n : Nat), IC h told ts cap tb cl pr sz T σ → (∀ j, 215 ≤ j → σ j = σ0 j) → mq_q h (mt_mk h T sz w) cl a n σ → Q (if x = 0 then (a : Int) + 1 else n - a) σ) (k0 : ¬ (mt_md told (mt_mk h T sz) w ∧ 0 ≤ x ∧ x ≤ 1) → Q (-1) σ0) : f_X11_power σ0 w x Q := by
  have t16 := i.1.2.2.2.2.2
  unfold f_X11_power f_X11_power_u0
  unfold f_X11_power_u17 f_X11_power_u64
  refine c_isMade i (fun q _ => ⟨fun z => absurd z (by omega), fun _ => ⟨fun _ => k0 (by omega), fun x0 => ⟨fun x1 => ⟨q.1, by have := q.2.1; omega, fun _ => ?_⟩, fun _ => k0 (by omega)⟩⟩⟩) (fun q _ => ⟨fun _ => k0 (fun z => q z.1), fun z => absurd rfl z⟩)
  obtain ⟨g1, g2, g3, g4⟩ := IC_w i q.1 q.2.1
  have c := i.2.2.1
  rw [i.1.1, show 119 + 6 * w + 2 = 121 + 6 * w by omega]
  refine s_study_x i.1.2.2.1 i.1.2.2.2.1 (Or.inr (by have := q.1; omega)) (by have := q.1; omega) g3 g2 c.2.2.2.1 c.2.2.1 (nb h _ i.1.2.2.1 i.1.2.2.2.1 g3) (fun σ a n f p => ?_)
  have k := k1 q (by omega) (by omega) σ a n (IC_kp (mt_f46_kp f) i) (mt_kp_m (mt_f46_kp f)) p
  rw [p.2.2.1, p.2.2.2.1]
  refine ⟨fun z _ => ?_, fun z _ => ?_⟩
  · rw [if_neg z] at k; exact k
  · rw [if_pos z] at k; exact k
