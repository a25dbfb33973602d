/-! the class: mend, exactly -/
/-- is sign i of t turned, once those of the set are changed? -/
def mn_u (t : Int → Int) (set : Int) (i : Nat) : Int := if (t (2 * i) = 117 ∧ mb_t set i = 0) ∨ (t (2 * i) ≠ 117 ∧ mb_t set i ≠ 0) then 1 else 0
def mn_r (t : Int → Int) (i : Nat) : Int := t (2 * i + 1) - 48
/-- the best set of those below m, how many it changes -/
def mn_b (P : Nat → Prop) : Nat → Int → Int → Prop
  | 0, b, f => b = -2 ∧ f = 11
  | m + 1, b, f => ∃ b' f', mn_b P m b' f' ∧ (((mb_sw m : Int) < f' ∧ P m ∧ b = m ∧ f = mb_sw m) ∨ (¬ ((mb_sw m : Int) < f' ∧ P m) ∧ b = b' ∧ f = f'))
theorem mn_b_u {P P' : Nat → Prop} : ∀ (m : Nat) (b f b2 f2 : Int), (∀ i, i < m → (P i ↔ P' i)) → mn_b P m b f → mn_b P' m b2 f2 → b = b2 ∧ f = f2 := by
  intro m
  induction m with
  | zero => intro b f b2 f2 _ x y; exact ⟨by rw [x.1, y.1], by rw [x.2, y.2]⟩
  | succ m ih =>
    intro b f b2 f2 h x y
    obtain ⟨b', f', x1, x2⟩ := x
    obtain ⟨b3, f3, y1, y2⟩ := y
    obtain ⟨e1, e2⟩ := ih b' f' b3 f3 (fun i hi => h i (by omega)) x1 y1
    subst e1; subst e2
    have hm := h m (by omega)
    rcases x2 with ⟨u1, u2, u3, u4⟩ | ⟨u1, u3, u4⟩ <;> rcases y2 with ⟨w1, w2, w3, w4⟩ | ⟨w1, w3, w4⟩
    · exact ⟨by rw [u3, w3], by rw [u4, w4]⟩
    · exact absurd ⟨u1, hm.1 u2⟩ w1
    · exact absurd ⟨w1, hm.2 w2⟩ u1
    · exact ⟨by rw [u3, w3], by rw [u4, w4]⟩
theorem so_q_c {h : Int} {r u u' : Nat → Int} {s : Nat} : ∀ k : Nat, k ≤ s → (∀ i, s - k ≤ i → i < s → u i = u' i) → so_q h r u s k = so_q h r u' s k := by
  intro k
  induction k with
  | zero => intro _ _; rfl
  | succ k ih =>
    intro hk e
    have i := ih (by omega) (fun i a b => e i (by omega) b)
    show mt_both h (mt_sgn h (r (s - 1 - k)) (u (s - 1 - k))) (so_q h r u s k) = mt_both h (mt_sgn h (r (s - 1 - k)) (u' (s - 1 - k))) (so_q h r u' s k)
    rw [i, e (s - 1 - k) (by omega) (by omega)]
theorem so_q_ok {h : Int} {r u : Nat → Int} {s : Nat} (h5 : h ≤ 5) : ∀ k : Nat, mt_ok h (so_q h r u s k) := by
  intro k
  cases k with
  | zero => exact mt_str_ok h5
  | succ k => exact mt_both_ok h5 (mt_sgn_ok h5).2.2.1
/-- above the lowest place of a set, the set below it is alike -/
def mb_hi (n : Nat) : Bool := mb_fc (mb_sw (b_and (n : Int) (-(n : Int)) - 1).toNat) (fun k => (List.range 10).all (fun i => decide (i ≤ k) || (n.testBit i == (n - 1).testBit i)))
theorem mb_hi_1 : ∀ a, a < 4 → ∀ b, b < 256 → (256 * a + b = 0 ∨ mb_hi (256 * a + b) = true) := by decide +kernel
theorem mb_hi_e {n i : Nat} (h0 : 0 < n) (h : n < 1024) (hi : mb_sw (b_and (n : Int) (-(n : Int)) - 1).toNat < i) (i9 : i < 10) : mb_t (n : Int) i = mb_t ((n : Int) - 1) i := by
  have := mb_hi_1 (n / 256) (by omega) (n % 256) (by omega)
  rw [show 256 * (n / 256) + n % 256 = n by omega] at this
  rcases this with q | q
  · omega
  · unfold mb_hi at q
    rw [mb_fc_e, List.all_eq_true] at q
    have z := q i (List.mem_range.mpr i9)
    rw [Bool.or_eq_true] at z
    rcases z with z | z
    · have := of_decide_eq_true z; omega
    · have z : n.testBit i = (n - 1).testBit i := by simpa using z
      rw [show (n : Int) - 1 = ((n - 1 : Nat) : Int) by omega, mb_t_n (by omega) (by omega), mb_t_n (by omega) (by omega), z]
theorem s_leastSet_x {Q : Int → ml_St → Prop} {p h n : Int} {σ0 : ml_St} {t cl : Int → Int} {s : Nat} (h2 : 2 ≤ h) (h5 : h ≤ 5) (pd : 118 < p) (n0 : 2 ≤ n) (n20 : n ≤ 20) (hs : n / 2 = s) (es : σ0 p 1 = n) (et : mt_teq n (σ0 (p + 1)) t) (tI : ∀ j, 0 ≤ j → j < n → ml_I8 (t j)) (hp : ∀ k : Nat, 2 * (k : Int) < n → (t (2 * k) = 120 ∨ t (2 * k) = 117) ∧ 2 * (k : Int) + 1 < n ∧ 48 ≤ t (2 * k + 1) ∧ t (2 * k + 1) ≤ 57 ∧ t (2 * k + 1) - 48 ≤ h - 2) (hc : mt_M h cl) (ec : mt_eq h (σ0 5) cl) (k : ∀ b f σ, mn_b (fun m => mn_one h (so_q h (mn_r t) (mn_u t m) s s) cl) (2 ^ s) b f → I32 b → mt_kp σ0 σ → Q b σ) : f_X5_leastSet σ0 p h Q := by
  have td : Int.tdiv n 2 = n / 2 := Int.tdiv_eq_ediv_of_nonneg (by omega)
  rw [hs] at td
  have s1 : 1 ≤ s := by omega
  have s10 : s ≤ 10 := by omega
  generalize hP : (fun m : Nat => mn_one h (so_q h (mn_r t) (mn_u t m) s s) cl) = P at k
  have kpf : ∀ σ, mt_f78 σ0 σ → mt_kp σ0 σ := fun σ f j hj => f j (by omega)
  have rr : ∀ i : Nat, i < s → 0 ≤ mn_r t i ∧ mn_r t i + 2 ≤ h := fun i hi => by
    obtain ⟨-, -, a, b, c⟩ := hp i (by omega)
    unfold mn_r; omega
  have rd : ∀ σ, mt_f78 σ0 σ → ∀ i : Nat, i < s → (σ (p + 1) (2 * (i : Int)) = t (2 * i) ∧ σ (p + 1) (2 * (i : Int) + 1) = t (2 * i + 1) ∧ 48 ≤ t (2 * i + 1) ∧ t (2 * i + 1) ≤ 57 ∧ t (2 * i + 1) - 48 ≤ h - 2) := by
    intro σ f i hi
    have := hp i (by omega)
    rw [f (p + 1) (by omega)]
    exact ⟨et _ (by omega) (by omega), et _ (by omega) this.2.1, this.2.2.1, this.2.2.2.1, this.2.2.2.2⟩
  have p2 : (2 : Nat) ^ s ≤ 2 ^ 10 := Nat.pow_le_pow_right (by omega) s10
  have esh : b_shl 1 s = ((2 ^ s : Nat) : Int) := mb_shl (by omega)
  have QM : ∀ (u : Nat → Int) (k : Nat), k ≤ s → so_M h k (so_q h (mn_r t) u s k) := fun u k hk => so_q_M h2 h5 s k (by omega) hk rr
  have L : ∀ (N : Nat) (set : Nat) (best few : Int) (σ : ml_St), set ≤ 2 ^ s → 2 ^ s - set < N → mt_f78 σ0 σ → I32 best → mn_b P set best few → 0 ≤ few → few ≤ 100 → (set = 0 → mt_wv h σ (81 + 3 * (s : Int)) (mt_str h)) → (set ≠ 0 → ∀ j : Nat, j ≤ s → mt_wv h σ (81 + 3 * (j : Int)) (so_q h (mn_r t) (mn_u t ((set : Int) - 1)) s (s - j))) → f_X5_leastSet_u36 Q (f_X5_leastSet_u234 Q p) p N σ h s best few set := by
    intro N
    induction N with
    | zero => intro set best few σ q1 hN; omega
    | succ N ih =>
      intro set best few σ q1 hN f hb hB f0 f1 hv0 hv1
      unfold f_X5_leastSet_u36
      rw [esh]
      refine ⟨fun c => ?_, fun c => ?_⟩
      · unfold f_X5_leastSet_u234
        have : set = 2 ^ s := by omega
        rw [this] at hB
        exact k best few σ hB hb (kpf σ f)
      -- on to the next set
      have NX : ∀ (σ : ml_St) (best few : Int), mt_f78 σ0 σ → I32 best → mn_b P (set + 1) best few → 0 ≤ few → few ≤ 100 → (∀ j : Nat, j ≤ s → mt_wv h σ (81 + 3 * (j : Int)) (so_q h (mn_r t) (mn_u t set) s (s - j))) → f_X5_leastSet_u228 Q (f_X5_leastSet_u36 Q (f_X5_leastSet_u234 Q p) p N) p σ h s best few set := by
        intro σ best few f hb hB f0 f1 hv
        unfold f_X5_leastSet_u228
        refine ⟨mt_I (by omega) (by omega), fun y e => ?_⟩
        rw [e, show (set : Int) + 1 = ((set + 1 : Nat) : Int) by omega]
        exact ih (set + 1) best few σ (by omega) (by omega) f hb hB f0 f1 (fun z => by omega) (fun _ j j1 => by rw [show ((set + 1 : Nat) : Int) - 1 = (set : Int) by omega]; exact hv j j1)
      -- the set is done
      have DN : ∀ (σ : ml_St), mt_f78 σ0 σ → (∀ j : Nat, j ≤ s → mt_wv h σ (81 + 3 * (j : Int)) (so_q h (mn_r t) (mn_u t set) s (s - j))) → f_X5_leastSet_u190 Q (f_X5_leastSet_u36 Q (f_X5_leastSet_u234 Q p) p N) p σ h s best few set := by
        intro σ f hv
        unfold f_X5_leastSet_u190
        refine s_bitCount (by omega) ?_
        have hpc := mb_sw_pc (n := set) (by omega)
        have hle := mb_pc_le 16 set
        refine fun _ => ⟨fun g => NX σ best few f hb ⟨best, few, hB, Or.inr ⟨fun z => by omega, rfl, rfl⟩⟩ f0 f1 hv, fun c2 => ⟨by omega, by omega, ?_⟩⟩
        have v2 := hv 0 (by omega)
        have v1 := QM (mn_u t set) s (Nat.le_refl s)
        refine s_leavesOne_x (v := so_q h (mn_r t) (mn_u t set) s s) h2 h5 (by omega) v1.1 (so_q_ok h5 s) v1.2.1 (by have := v1.2.2; omega) v2 hc (fun e e0 e1 => by rw [f 5 (by omega)]; exact ec e e0 e1) (fun r σ4 hr f4 _ => ?_)
        have f4' : mt_f78 σ0 σ4 := mt_f78_t f (fun j hj => f4 j (by omega))
        have hv4 : ∀ j : Nat, j ≤ s → mt_wv h σ4 (81 + 3 * (j : Int)) (so_q h (mn_r t) (mn_u t set) s (s - j)) := fun j j1 => mt_wv_eq (f4 _ (by omega)) (f4 _ (by omega)) (f4 _ (by omega)) (hv j j1)
        have ePs : P set ↔ mn_one h (so_q h (mn_r t) (mn_u t set) s s) cl := by rw [← hP]
        rcases hr with ⟨r1, o⟩ | ⟨r1, o⟩
        · exact ⟨fun z => absurd z (by omega), fun _ => NX σ4 set _ f4' ⟨by omega, by omega⟩ ⟨best, few, hB, Or.inl ⟨by omega, ePs.2 o, rfl, rfl⟩⟩ (by omega) (by omega) hv4⟩
        · exact ⟨fun _ => NX σ4 best few f4' hb ⟨best, few, hB, Or.inr ⟨fun z => o (ePs.1 z.2), rfl, rfl⟩⟩ f0 f1 hv4, fun z => absurd r1 z⟩
      -- the tails from x down
      have D : ∀ (M : Nat) (x : Int) (σ : ml_St), -1 ≤ x → x < s → x + 1 < M → mt_f78 σ0 σ → (∀ j : Nat, x + 1 ≤ j → j ≤ s → mt_wv h σ (81 + 3 * (j : Int)) (so_q h (mn_r t) (mn_u t set) s (s - j))) → f_X5_leastSet_u74 Q (f_X5_leastSet_u190 Q (f_X5_leastSet_u36 Q (f_X5_leastSet_u234 Q p) p N) p) p M σ h s best few set x := by
        intro M
        induction M with
        | zero => intro x σ x0 x1 hM; omega
        | succ M ihM =>
          intro x σ x0 x1 hM f hv
          unfold f_X5_leastSet_u74
          refine ⟨fun c2 => DN σ f (fun j j1 => hv j (by omega) j1), fun c2 => ?_⟩
          obtain ⟨i, rfl⟩ : ∃ i : Nat, x = i := ⟨x.toNat, by omega⟩
          have hi : i < s := by omega
          obtain ⟨r1, r2, r3, r4, r5⟩ := rd σ f i hi
          have er : mn_r t i = t (2 * (i : Int) + 1) - 48 := rfl
          obtain ⟨rr0, rr1⟩ := rr i hi
          have go2 : ∀ u : Int, u = mn_u t set i → f_X5_leastSet_u153 Q (f_X5_leastSet_u74 Q (f_X5_leastSet_u190 Q (f_X5_leastSet_u36 Q (f_X5_leastSet_u234 Q p) p N) p) p M) p σ h s best few set i (2 * (t (2 * (i : Int) + 1) - 48)) u := by
            intro u hu
            have u01 : u = 0 ∨ u = 1 := by rw [hu]; unfold mn_u; split <;> omega
            unfold f_X5_leastSet_u153
            refine ⟨mt_I (by omega) (by omega), s_beSign h2 h5 (by omega) (by omega) (fun σ2 g2 w2 => ⟨by omega, by omega, mt_I (by omega) (by omega), by omega, by omega, ?_⟩)⟩
            rw [show (2 * (t (2 * (i : Int) + 1) - 48) + u) / 2 = mn_r t i by omega, show (2 * (t (2 * (i : Int) + 1) - 48) + u) % 2 = mn_u t set i by omega] at w2
            have v2 := hv (i + 1) (by omega) (by omega)
            have v1 := QM (mn_u t set) (s - (i + 1)) (by omega)
            rw [show ((i + 1 : Nat) : Int) = (i : Int) + 1 by omega] at v2
            refine s_beBoth h2 h5 (by omega) (by omega) (mt_sgn_M h5 rr0 rr1) v1.1 w2 (mt_wv_fr g2 (by omega) v2) (fun σ6 g6 w6 => ⟨mt_I (by omega) (by omega), fun y e => ?_⟩)
            have f6 : mt_f78 σ0 σ6 := mt_f78_t f (fun j hj => by rw [g6 j (by omega) (by omega) (by omega), g2 j (by omega) (by omega) (by omega)])
            have e : y = (i : Int) - 1 := by omega
            rw [e]
            refine ihM ((i : Int) - 1) σ6 (by omega) (by omega) (by omega) f6 (fun j j0 j1 => ?_)
            by_cases z : j = i
            · subst z
              have eq : so_q h (mn_r t) (mn_u t set) s (s - j) = mt_both h (mt_sgn h (mn_r t j) (mn_u t set j)) (so_q h (mn_r t) (mn_u t set) s (s - (j + 1))) := by
                rw [show s - j = s - (j + 1) + 1 by omega]
                show mt_both h (mt_sgn h (mn_r t (s - 1 - (s - (j + 1)))) (mn_u t set (s - 1 - (s - (j + 1))))) _ = _
                rw [show s - 1 - (s - (j + 1)) = j by omega]
              rw [eq]; exact w6
            · exact mt_wv_fr g6 (by omega) (mt_wv_fr g2 (by omega) (hv j (by omega) j1))
          have go : ∀ s2 : Int, s2 = mn_u t set i → f_X5_leastSet_u121 Q (f_X5_leastSet_u74 Q (f_X5_leastSet_u190 Q (f_X5_leastSet_u36 Q (f_X5_leastSet_u234 Q p) p N) p) p M) p σ h s best few set i s2 := by
            intro s2 h2'
            have u01 : s2 = 0 ∨ s2 = 1 := by rw [h2']; unfold mn_u; split <;> omega
            unfold f_X5_leastSet_u121
            rw [r2]
            exact ⟨mt_I (by omega) (by omega), mt_I (by omega) (by omega), by omega, by omega, fun _ => ⟨mt_I (by omega) (by omega), mt_I (by omega) (by omega), fun z => go2 0 (by omega), fun z => go2 1 (by omega)⟩⟩
          have go3 : ∀ u : Int, ((u = 1 ∧ t (2 * i) = 117) ∨ (u = 0 ∧ t (2 * i) ≠ 117)) → f_X5_leastSet_u98 Q (f_X5_leastSet_u74 Q (f_X5_leastSet_u190 Q (f_X5_leastSet_u36 Q (f_X5_leastSet_u234 Q p) p N) p) p M) p σ h s best few set i u := by
            intro u hu
            unfold f_X5_leastSet_u98
            unfold f_X5_leastSet_u113
            have eb : b_and (b_shr (set : Int) (i : Int)) 1 = mb_t set i := rfl
            rw [eb]
            refine ⟨fun z => ⟨fun z2 => go 0 ?_, fun z2 => go 1 ?_⟩, fun z => ⟨fun z2 => go 0 ?_, fun z2 => go 1 ?_⟩⟩ <;> unfold mn_u
            · rw [if_neg (by omega)]
            · rw [if_pos (by omega)]
            · rw [if_neg (by omega)]
            · rw [if_pos (by omega)]
          refine ⟨mt_I (by omega) (by omega), by omega, by omega, ?_⟩
          rw [r1]
          exact fun _ => ⟨fun z => go3 0 (Or.inr ⟨rfl, z⟩), fun z => go3 1 (Or.inl ⟨rfl, z⟩)⟩
      refine ⟨fun c2 => ?_, fun c2 => ⟨mt_I (by omega) (by omega), ?_⟩⟩
      · obtain ⟨m0, m1, m2⟩ := mb_lo_e (n := set) (by omega) (by omega)
        refine ⟨mt_I (by omega) (by omega), mt_I (by omega) (by omega), ?_⟩
        rw [show b_and (set : Int) (-(set : Int)) - 1 = (((b_and (set : Int) (-(set : Int)) - 1).toNat : Nat) : Int) by omega]
        refine s_bitCount (by omega) ?_
        have hlt : mb_sw (b_and (set : Int) (-(set : Int)) - 1).toNat < s := by
          rcases Nat.lt_or_ge (mb_sw (b_and (set : Int) (-(set : Int)) - 1).toNat) s with z | z
          · exact z
          · have := Nat.pow_le_pow_right (n := 2) (by omega) z
            omega
        refine fun _ => ?_
        unfold f_X5_leastSet_u68
        refine ⟨20, D 20 _ σ (by omega) (by omega) (by omega) f (fun j j0 j1 => ?_)⟩
        have hw := hv1 (by omega) j j1
        rw [so_q_c (u' := mn_u t set) (s - j) (by omega) (fun i a b => ?_)] at hw
        · exact hw
        · have := mb_hi_e (n := set) (i := i) (by omega) (by omega) (by omega) (by omega)
          unfold mn_u
          rw [← this]
      · unfold f_X5_leastSet_u68
        refine ⟨20, D 20 _ σ (by omega) (by omega) (by omega) f (fun j j0 j1 => ?_)⟩
        have : j = s := by omega
        rw [this, show s - s = 0 by omega]
        exact hv0 (by omega)
  unfold f_X5_leastSet f_X5_leastSet_u0
  rw [es, td]
  refine fun _ => ⟨by omega, mt_I (by omega) (by omega), fun y3 e3 => ?_⟩
  have e3 : y3 = (s : Int) := by omega
  subst e3
  refine ⟨by omega, by omega, s_beStraight h2 h5 (fun σ5 f5 w5 => ⟨2 ^ s + 1, ?_⟩)⟩
  exact L (2 ^ s + 1) 0 (-2) 11 σ5 (Nat.zero_le _) (by rw [Nat.sub_zero]; exact Nat.lt_succ_self _) (fun j hj => f5 j (by omega) (by omega) (by omega)) (mt_I (by omega) (by omega)) ⟨rfl, rfl⟩ (by omega) (by omega) (fun _ => w5) (fun z => absurd rfl z)
theorem c_mend_x {Q : Int → ml_St → Prop} {h told ts cap w : Int} {tb cl pr sz : Int → Int} {T : Int → Int → Int} {σ0 : ml_St} (i : IC h told ts cap tb cl pr sz T σ0) (k0 : ¬ (0 ≤ w ∧ w < told ∧ mt_pl (T w) (sz w).toNat ≠ 0 ∧ sz w ≤ 20) → Q (-1) σ0) (k1 : 0 ≤ w → w < told → mt_pl (T w) (sz w).toNat ≠ 0 → sz w ≤ 20 → ∀ (s : Nat) b f σ, IC h told ts cap tb cl pr sz T σ → (∀ j, 215 ≤ j → σ j = σ0 j) → sz w / 2 = s → s ≤ 10 → (∀ j, j < s → 0 ≤ mn_r (T w) j ∧ mn_r (T w) j + 2 ≤ h) → mn_b (fun m => mn_one h (so_q h (mn_r (T w)) (mn_u (T w) m) s s) cl) (2 ^ s) b f → Q b σ) : f_X11_mend σ0 w Q := by
  have a := i.1
  have t16 := a.2.2.2.2.2
  have c := i.2.2.1
  unfold f_X11_mend f_X11_mend_u0
  unfold f_X11_mend_u34
  refine s_isTold a.2.1 (fun w0 w1 _ => ⟨fun z => absurd z (by omega), fun _ => ?_⟩) (fun no _ => ⟨fun _ => k0 (fun y => no ⟨y.1, y.2.1⟩), fun z => absurd rfl z⟩)
  obtain ⟨⟨g, e1, et, e2⟩, -⟩ := IC_w i w0 w1
  rw [e1, e2, a.1]
  refine ⟨w0, by omega, fun _ => ⟨fun z => k0 (fun y => y.2.2.1 z), fun z => ⟨w0, by omega, fun _ => ⟨fun z2 => ⟨w0, by omega, ?_⟩, fun z2 => k0 (fun y => z2 y.2.2.2)⟩⟩⟩⟩
  have hall := mt_pl_all (t := T w) (sz w).toNat z
  have g1 := g.1
  have g2 := g.2.1
  have prs := mt_pairs (t := T w) (n := sz w) (h := h) (w := w) (by omega) (fun j j0 j1 => by have := hall j.toNat (by omega); rw [show ((j.toNat : Nat) : Int) = j by omega] at this; exact this) _ 0 0 1 (Int.le_refl 0) g.2.2.2 (by omega) (by omega)
  have prs' : ∀ k : Nat, 2 * (k : Int) < sz w → (T w (2 * k) = 120 ∨ T w (2 * k) = 117) ∧ 2 * (k : Int) + 1 < sz w ∧ 48 ≤ T w (2 * k + 1) ∧ T w (2 * k + 1) ≤ 57 ∧ T w (2 * k + 1) - 48 ≤ h - 2 := fun k hk => by
    have := prs k (by omega)
    rw [show (0 : Int) + 2 * k = 2 * k by omega] at this
    exact this
  have n2 : 2 ≤ sz w := by have := (prs' 0 (by omega)).2.1; omega
  have kk := k1 w0 w1 z z2 (sz w / 2).toNat
  refine fun _ => s_leastSet_x (n := sz w) (t := T w) (s := (sz w / 2).toNat) a.2.2.1 a.2.2.2.1 (by omega) n2 (by omega) (by omega) e1 (by rw [show 119 + 6 * w + 1 = 120 + 6 * w by omega]; exact et) g.2.2.1 prs' c.2.2.2.1 c.2.2.1 (fun b f σ hb _ kp _ => kk b f σ (IC_kp kp i) (mt_kp_m kp) (by omega) (by omega) (fun j hj => ?_) hb)
  obtain ⟨-, -, q1, q2, q3⟩ := prs' j (by omega)
  unfold mn_r; omega
