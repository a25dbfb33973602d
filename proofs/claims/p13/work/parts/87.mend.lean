/-! the class: mend, back (that they end) -/
theorem mt_pl_all {t : Int → Int} : ∀ n : Nat, mt_pl t n ≠ 0 → ∀ k : Nat, k < n → t k = 120 ∨ t k = 117 ∨ (48 ≤ t k ∧ t k ≤ 57) := by
  intro n
  induction n with
  | zero => intro _ k hk; omega
  | succ n ih =>
    intro h k hk
    unfold mt_pl at h
    by_cases q : mt_pl t n = 0
    · rw [if_pos q] at h; exact absurd rfl h
    · rw [if_neg q] at h
      by_cases z : t n = 120 ∨ t n = 117 ∨ (48 ≤ t n ∧ t n ≤ 57)
      · by_cases y : k = n
        · rw [y]; exact z
        · exact ih q k (by omega)
      · rw [if_neg z] at h; exact absurd rfl h
/-- a plain TEXT is signs with their digits -/
theorem mt_pairs {t : Int → Int} {n h w : Int} (n0 : 0 ≤ n) (hp : ∀ j, 0 ≤ j → j < n → t j = 120 ∨ t j = 117 ∨ (48 ≤ t j ∧ t j ≤ 57)) : ∀ (F : Nat) (i d need : Int), 0 ≤ i → mt_gr t n h w F i d need = 0 → n - i < F → i ≤ n → ∀ k : Nat, i + 2 * k < n → (t (i + 2 * k) = 120 ∨ t (i + 2 * k) = 117) ∧ i + 2 * k + 1 < n ∧ 48 ≤ t (i + 2 * k + 1) ∧ t (i + 2 * k + 1) ≤ 57 ∧ t (i + 2 * k + 1) - 48 ≤ h - 2 := by
  intro F
  induction F with
  | zero => intro i d need _ _ hF hi; omega
  | succ F ih =>
    intro i d need i0 g hF hi k hk
    have hpi := hp i i0 (by omega)
    rcases mt_gr_c n0 i0 g with z | z | z | z | z
    · omega
    · omega
    · omega
    · obtain ⟨z1, z2, z3, z4, z5, z6, z7, z8⟩ := z
      have no : ¬ (i + 2 < n ∧ t (i + 2) = 42) := fun q => by have := hp (i + 2) (by omega) q.1; omega
      have et : mt_tn t n (i + 2) = i + 2 := by unfold mt_tn; rw [if_neg no]
      cases k with
      | zero =>
        rw [show i + 2 * ((0 : Nat) : Int) = i by omega]
        exact ⟨z2, z3, z4, z5, z6⟩
      | succ k =>
        rw [et] at z8
        have := ih (i + 2) d 0 (by omega) z8 (by omega) (by omega) k (by omega)
        rw [show i + 2 * ((k + 1 : Nat) : Int) = i + 2 + 2 * k by omega]
        exact this
    · omega
def mb_lo (n : Nat) : Bool := decide (0 ≤ b_and (n : Int) (-(n : Int)) - 1 ∧ b_and (n : Int) (-(n : Int)) - 1 < 1024 ∧ 2 ^ mb_sw (b_and (n : Int) (-(n : Int)) - 1).toNat ≤ n)
theorem mb_lo_1 : ∀ a, a < 4 → ∀ b, b < 256 → (256 * a + b = 0 ∨ mb_lo (256 * a + b) = true) := by decide +kernel
theorem mb_lo_e {n : Nat} (h0 : 0 < n) (h : n < 1024) : 0 ≤ b_and (n : Int) (-(n : Int)) - 1 ∧ b_and (n : Int) (-(n : Int)) - 1 < 1024 ∧ 2 ^ mb_sw (b_and (n : Int) (-(n : Int)) - 1).toNat ≤ n := by
  have := mb_lo_1 (n / 256) (by omega) (n % 256) (by omega)
  rw [show 256 * (n / 256) + n % 256 = n by omega] at this
  rcases this with q | q
  · omega
  · exact of_decide_eq_true q
def mt_f78 (σ σ' : ml_St) : Prop := ∀ j, (j < 46 ∨ (54 < j ∧ j < 78) ∨ 113 < j) → σ' j = σ j
theorem mt_f78_t {σ σ1 σ2 : ml_St} (a : mt_f78 σ σ1) (b : mt_f78 σ1 σ2) : mt_f78 σ σ2 := fun j hj => by rw [b j hj, a j hj]
theorem s_leavesOne {Q : Int → ml_St → Prop} {p h : Int} {σ0 : ml_St} {v cl : Int → Int} (h2 : 2 ≤ h) (h5 : h ≤ 5) (pd : 55 ≤ p) (hv : mt_M h v) (wv : mt_wv h σ0 p v) (hc : mt_M h cl) (ec : mt_eq h (σ0 5) cl) (k : ∀ r σ, (r = 0 ∨ r = 1) → mt_f46 σ0 σ → Q r σ) : f_X5_leavesOne σ0 p h Q := by
  unfold f_X5_leavesOne f_X5_leavesOne_u0
  refine fun _ => s_loopsBy h2 h5 hv hc (mt_eq_wa wv).1 ec (fun _ => ⟨fun _ => s_study h2 h5 (Or.inr pd) (by omega) hv wv hc ec (fun σ f p => s_alwaysOne p (fun r hr _ => k r σ hr f)), fun _ => k 0 σ0 (Or.inl rfl) (fun _ _ => rfl)⟩)
theorem s_leastSet {Q : Int → ml_St → Prop} {p h n : Int} {σ0 : ml_St} {t cl : Int → Int} (h2 : 2 ≤ h) (h5 : h ≤ 5) (pd : 118 < p) (n0 : 2 ≤ n) (n20 : n ≤ 20) (es : σ0 p 1 = n) (et : mt_teq n (σ0 (p + 1)) t) (tI : ∀ j, 0 ≤ j → j < n → ml_I8 (t j)) (hp : ∀ k : Nat, 2 * (k : Int) < n → (t (2 * k) = 120 ∨ t (2 * k) = 117) ∧ 2 * (k : Int) + 1 < n ∧ 48 ≤ t (2 * k + 1) ∧ t (2 * k + 1) ≤ 57 ∧ t (2 * k + 1) - 48 ≤ h - 2) (hc : mt_M h cl) (ec : mt_eq h (σ0 5) cl) (k : ∀ r σ, I32 r → mt_kp σ0 σ → Q r σ) : f_X5_leastSet σ0 p h Q := by
  have td : Int.tdiv n 2 = n / 2 := Int.tdiv_eq_ediv_of_nonneg (by omega)
  generalize hs : n / 2 = s at *
  have s1 : 1 ≤ s := by omega
  have s10 : s ≤ 10 := by omega
  have kpf : ∀ σ, mt_f78 σ0 σ → mt_kp σ0 σ := fun σ f j hj => f j (by omega)
  have rd : ∀ σ, mt_f78 σ0 σ → ∀ i, 0 ≤ i → i < s → (σ (p + 1) (2 * i) = t (2 * i) ∧ σ (p + 1) (2 * i + 1) = t (2 * i + 1) ∧ 48 ≤ t (2 * i + 1) ∧ t (2 * i + 1) ≤ 57 ∧ t (2 * i + 1) - 48 ≤ h - 2) := by
    intro σ f i i0 i1
    have := hp i.toNat (by omega)
    rw [show ((i.toNat : Nat) : Int) = i by omega] at this
    rw [f (p + 1) (by omega)]
    exact ⟨et _ (by omega) (by omega), et _ (by omega) this.2.1, this.2.2.1, this.2.2.2.1, this.2.2.2.2⟩
  have p2 : (2 : Nat) ^ s.toNat ≤ 2 ^ 10 := Nat.pow_le_pow_right (by omega) (by omega)
  have esh : b_shl 1 s = ((2 ^ s.toNat : Nat) : Int) := by
    have := mb_shl (r := s.toNat) (by omega)
    rw [show ((s.toNat : Nat) : Int) = s by omega] at this
    exact this
  have L : ∀ (N : Nat) (set best few : Int) (σ : ml_St), 0 ≤ set → set ≤ ((2 ^ s.toNat : Nat) : Int) → ((2 ^ s.toNat : Nat) : Int) - set < N → mt_f78 σ0 σ → I32 best → 0 ≤ few → few ≤ 100 → (∀ j, (if set = 0 then s else 0) ≤ j → j ≤ s → ∃ v, mt_M h v ∧ mt_wv h σ (81 + 3 * j) v) → f_X5_leastSet_u36 Q (f_X5_leastSet_u234 Q p) p N σ h s best few set := by
    intro N
    induction N with
    | zero => intro set best few σ q0 q1 hN; omega
    | succ N ih =>
      intro set best few σ q0 q1 hN f hb f0 f1 hv
      unfold f_X5_leastSet_u36
      rw [esh]
      refine ⟨fun c => ?_, fun c => ?_⟩
      · unfold f_X5_leastSet_u234; exact k best σ hb (kpf σ f)
      -- on to the next set
      have NX : ∀ (σ : ml_St) (best few : Int), mt_f78 σ0 σ → I32 best → 0 ≤ few → few ≤ 100 → (∀ j, 0 ≤ j → j ≤ s → ∃ v, mt_M h v ∧ mt_wv h σ (81 + 3 * j) v) → f_X5_leastSet_u228 Q (f_X5_leastSet_u36 Q (f_X5_leastSet_u234 Q p) p N) p σ h s best few set := by
        intro σ best few f hb f0 f1 hv
        unfold f_X5_leastSet_u228
        refine ⟨mt_I (by omega) (by omega), fun y e => ?_⟩
        subst e
        exact ih (set + 1) best few σ (by omega) (by omega) (by omega) f hb f0 f1 (fun j j0 j1 => hv j (by rw [if_neg (by omega)] at j0; exact j0) j1)
      -- the set is done
      have DN : ∀ (σ : ml_St), mt_f78 σ0 σ → (∀ j, 0 ≤ j → j ≤ s → ∃ v, mt_M h v ∧ mt_wv h σ (81 + 3 * j) v) → f_X5_leastSet_u190 Q (f_X5_leastSet_u36 Q (f_X5_leastSet_u234 Q p) p N) p σ h s best few set := by
        intro σ f hv
        unfold f_X5_leastSet_u190
        rw [show set = ((set.toNat : Nat) : Int) by omega]
        refine s_bitCount (by omega) ?_
        have hpc := mb_sw_pc (n := set.toNat) (by omega)
        have hle := mb_pc_le 16 set.toNat
        rw [show ((set.toNat : Nat) : Int) = set by omega]
        refine fun _ => ⟨fun _ => NX σ best few f hb f0 f1 hv, fun c2 => ⟨by omega, by omega, ?_⟩⟩
        obtain ⟨v, v1, v2⟩ := hv 0 (by omega) (by omega)
        refine s_leavesOne h2 h5 (by omega) v1 v2 hc (fun e e0 e1 => by rw [f 5 (by omega)]; exact ec e e0 e1) (fun r σ4 _ f4 _ => ?_)
        have f4' : mt_f78 σ0 σ4 := mt_f78_t f (fun j hj => f4 j (by omega))
        have hv4 : ∀ j, 0 ≤ j → j ≤ s → ∃ v, mt_M h v ∧ mt_wv h σ4 (81 + 3 * j) v := fun j j0 j1 => by
          obtain ⟨v, v1, v2⟩ := hv j j0 j1
          exact ⟨v, v1, mt_wv_eq (f4 _ (by omega)) (f4 _ (by omega)) (f4 _ (by omega)) v2⟩
        exact ⟨fun _ => NX σ4 best few f4' hb f0 f1 hv4, fun _ => NX σ4 set _ f4' ⟨by omega, by omega⟩ (by omega) (by omega) hv4⟩
      -- the tails from x down
      have D : ∀ (M : Nat) (x : Int) (σ : ml_St), -1 ≤ x → x < s → x + 1 < M → mt_f78 σ0 σ → (∀ j, (if set = 0 then x + 1 else 0) ≤ j → j ≤ s → ∃ v, mt_M h v ∧ mt_wv h σ (81 + 3 * j) v) → f_X5_leastSet_u74 Q (f_X5_leastSet_u190 Q (f_X5_leastSet_u36 Q (f_X5_leastSet_u234 Q p) p N) p) p M σ h s best few set x := by
        intro M
        induction M with
        | zero => intro x σ x0 x1 hM; omega
        | succ M ihM =>
          intro x σ x0 x1 hM f hv
          unfold f_X5_leastSet_u74
          refine ⟨fun c2 => DN σ f (fun j j0 j1 => hv j (by split <;> omega) j1), fun c2 => ?_⟩
          obtain ⟨r1, r2, r3, r4, r5⟩ := rd σ f x (by omega) x1
          have go : ∀ s2 : Int, (s2 = 0 ∨ s2 = 1) → f_X5_leastSet_u121 Q (f_X5_leastSet_u74 Q (f_X5_leastSet_u190 Q (f_X5_leastSet_u36 Q (f_X5_leastSet_u234 Q p) p N) p) p M) p σ h s best few set x s2 := by
            intro s2 _
            have go2 : ∀ u : Int, (u = 0 ∨ u = 1) → f_X5_leastSet_u153 Q (f_X5_leastSet_u74 Q (f_X5_leastSet_u190 Q (f_X5_leastSet_u36 Q (f_X5_leastSet_u234 Q p) p N) p) p M) p σ h s best few set x (2 * (t (2 * x + 1) - 48)) u := by
              intro u hu
              unfold f_X5_leastSet_u153
              refine ⟨mt_I (by omega) (by omega), s_beSign h2 h5 (by omega) (by omega) (fun σ2 g2 w2 => ⟨by omega, by omega, mt_I (by omega) (by omega), by omega, by omega, ?_⟩)⟩
              obtain ⟨v, v1, v2⟩ := hv (x + 1) (by split <;> omega) (by omega)
              refine s_beBoth h2 h5 (by omega) (by omega) (mt_sgn_M h5 (by omega) (by omega)) v1 w2 (mt_wv_fr g2 (by omega) v2) (fun σ6 g6 w6 => ⟨mt_I (by omega) (by omega), fun y e => ?_⟩)
              have f6 : mt_f78 σ0 σ6 := mt_f78_t f (fun j hj => by rw [g6 j (by omega) (by omega) (by omega), g2 j (by omega) (by omega) (by omega)])
              have e : y = x - 1 := by omega
              subst e
              refine ihM (x - 1) σ6 (by omega) (by omega) (by omega) f6 (fun j j0 j1 => ?_)
              by_cases z : j = x
              · subst z
                exact ⟨_, mt_both_M h5 (mt_sgn_M h5 (by omega) (by omega)) v1, w6⟩
              · obtain ⟨u', u1, u2⟩ := hv j (by by_cases z0 : set = 0; · rw [if_pos z0] at j0 ⊢; omega
                                                · rw [if_neg z0] at j0 ⊢; omega) j1
                exact ⟨u', u1, mt_wv_fr g6 (by omega) (mt_wv_fr g2 (by omega) u2)⟩
            unfold f_X5_leastSet_u121
            rw [r2]
            exact ⟨mt_I (by omega) (by omega), mt_I (by omega) (by omega), by omega, by omega, fun _ => ⟨mt_I (by omega) (by omega), mt_I (by omega) (by omega), fun _ => go2 0 (Or.inl rfl), fun _ => go2 1 (Or.inr rfl)⟩⟩
          have go3 : ∀ u : Int, f_X5_leastSet_u98 Q (f_X5_leastSet_u74 Q (f_X5_leastSet_u190 Q (f_X5_leastSet_u36 Q (f_X5_leastSet_u234 Q p) p N) p) p M) p σ h s best few set x u := by
            intro u
            unfold f_X5_leastSet_u98
            unfold f_X5_leastSet_u113
            exact ⟨fun _ => ⟨fun _ => go 0 (Or.inl rfl), fun _ => go 1 (Or.inr rfl)⟩, fun _ => ⟨fun _ => go 0 (Or.inl rfl), fun _ => go 1 (Or.inr rfl)⟩⟩
          exact ⟨mt_I (by omega) (by omega), by omega, by omega, fun _ => ⟨fun _ => go3 0, fun _ => go3 1⟩⟩
      refine ⟨fun c2 => ?_, fun c2 => ⟨mt_I (by omega) (by omega), ?_⟩⟩
      · obtain ⟨m0, m1, m2⟩ := mb_lo_e (n := set.toNat) (by omega) (by omega)
        rw [show ((set.toNat : Nat) : Int) = set by omega] at m0 m1 m2
        refine ⟨mt_I (by omega) (by omega), mt_I (by omega) (by omega), ?_⟩
        rw [show b_and set (-set) - 1 = (((b_and set (-set) - 1).toNat : Nat) : Int) by omega]
        refine s_bitCount (by omega) ?_
        have hlt : mb_sw (b_and set (-set) - 1).toNat < s.toNat := by
          rcases Nat.lt_or_ge (mb_sw (b_and set (-set) - 1).toNat) s.toNat with z | z
          · exact z
          · have := Nat.pow_le_pow_right (n := 2) (by omega) z
            omega
        refine fun _ => ?_
        unfold f_X5_leastSet_u68
        rw [if_neg c2] at hv
        exact ⟨20, D 20 _ σ (by omega) (by omega) (by omega) f (fun j j0 j1 => hv j (by rw [if_neg c2] at j0; exact j0) j1)⟩
      · unfold f_X5_leastSet_u68
        rw [if_pos c2] at hv
        exact ⟨20, D 20 _ σ (by omega) (by omega) (by omega) f (fun j j0 j1 => hv j (by rw [if_pos c2] at j0; omega) j1)⟩
  unfold f_X5_leastSet f_X5_leastSet_u0
  rw [es, td]
  refine fun _ => ⟨by omega, mt_I (by omega) (by omega), fun y3 e3 => ?_⟩
  have e3 : y3 = s := by omega
  subst e3
  refine ⟨by omega, by omega, s_beStraight h2 h5 (fun σ5 f5 w5 => ⟨2 ^ y3.toNat + 1, ?_⟩)⟩
  refine L _ 0 (-2) 11 σ5 (by omega) (Int.natCast_nonneg _) (by omega) (fun j hj => f5 j (by omega) (by omega) (by omega)) (mt_I (by omega) (by omega)) (by omega) (by omega) (fun j j0 j1 => ?_)
  rw [if_pos rfl] at j0
  have : j = y3 := by omega
  subst this
  exact ⟨_, mt_str_M h5, w5⟩
theorem c_mend {Q : Int → ml_St → Prop} {h told ts cap w : Int} {tb cl pr sz : Int → Int} {T : Int → Int → Int} {σ0 : ml_St} (i : IC h told ts cap tb cl pr sz T σ0) (k : ∀ r σ, IC h told ts cap tb cl pr sz T σ → (∀ j, 215 ≤ j → σ j = σ0 j) → Q r σ) : f_X11_mend σ0 w Q := by
  have a := i.1
  have t16 := a.2.2.2.2.2
  have c := i.2.2.1
  have no : ∀ r, Q r σ0 := fun r => k r σ0 i (fun _ _ => rfl)
  unfold f_X11_mend f_X11_mend_u0
  unfold f_X11_mend_u34
  refine s_isTold a.2.1 (fun w0 w1 _ => ⟨fun z => absurd z (by omega), fun _ => ⟨w0, by omega, fun _ => ⟨fun _ => no _, fun z => ⟨w0, by omega, fun _ => ⟨fun z2 => ⟨w0, by omega, ?_⟩, fun _ => no _⟩⟩⟩⟩⟩) (fun _ _ => ⟨fun _ => no _, fun z => absurd rfl z⟩)
  obtain ⟨⟨g, e1, et, e2⟩, -⟩ := IC_w i w0 w1
  rw [a.1]
  have hall := mt_pl_all (t := T w) (sz w).toNat (by rw [← e2]; exact z)
  have g1 := g.1
  have g2 := g.2.1
  have prs := mt_pairs (t := T w) (n := sz w) (h := h) (w := w) (by omega) (fun j j0 j1 => by have := hall j.toNat (by omega); rw [show ((j.toNat : Nat) : Int) = j by omega] at this; exact this) _ 0 0 1 (Int.le_refl 0) g.2.2.2 (by omega) (by omega)
  have prs' : ∀ k : Nat, 2 * (k : Int) < sz w → (T w (2 * k) = 120 ∨ T w (2 * k) = 117) ∧ 2 * (k : Int) + 1 < sz w ∧ 48 ≤ T w (2 * k + 1) ∧ T w (2 * k + 1) ≤ 57 ∧ T w (2 * k + 1) - 48 ≤ h - 2 := fun k hk => by
    have := prs k (by omega)
    rw [show (0 : Int) + 2 * k = 2 * k by omega] at this
    exact this
  have n2 : 2 ≤ sz w := by have := (prs' 0 (by omega)).2.1; omega
  refine fun _ => s_leastSet (n := sz w) (t := T w) a.2.2.1 a.2.2.2.1 (by omega) n2 (by omega) e1 (by rw [show 119 + 6 * w + 1 = 120 + 6 * w by omega]; exact et) g.2.2.1 prs' c.2.2.2.1 c.2.2.1 (fun r σ _ kp _ => k r σ (IC_kp kp i) (mt_kp_m kp))
