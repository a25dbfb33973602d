/-! closing: the class, the model -/
theorem s_loopFrom {Q : Int → ml_St → Prop} {p2 h e : Int} {σ : ml_St} {α β : Int → Int} (h5 : h ≤ 5) (ha : mt_M h α) (hb : mt_M h β) (e0 : 0 ≤ e) (e1 : e < 2 * h) (ra : mt_eq h (σ (p2 + 1)) α) (rb : mt_eq h (σ 5) β) (k : Q (mt_lm α β e) σ) : f_X0_loopFrom σ p2 e Q := by
  have L : ∀ (F : Nat) (a m x5 : Int), 0 ≤ a → a < 2 * h → F + x5 = 11 → 0 ≤ x5 → Q (mt_lf α β e F a m) σ → f_X0_loopFrom_u8 Q (f_X0_loopFrom_u59 Q p2) p2 (F + 1) σ e m a x5 := by
    intro F
    induction F with
    | zero =>
      intro a m x5 a0 a1 hx h50 q
      unfold f_X0_loopFrom_u8
      exact ⟨fun _ => q, fun _ => ⟨fun _ => q, fun c => absurd c (by omega)⟩⟩
    | succ F ih =>
      intro a m x5 a0 a1 hx h50 q
      unfold f_X0_loopFrom_u8
      unfold mt_lf at q
      have g := ha a a0 a1
      have g2 := hb _ g.1 g.2.1
      refine ⟨fun c => ?_, fun c => ⟨fun d => absurd d (by omega), fun _ => ⟨a0, by omega, ?_⟩⟩⟩
      · rw [if_neg (show ¬ mb_t m e = 0 from c)] at q; exact q
      · rw [if_pos (show mb_t m e = 0 from c)] at q
        rw [ra a a0 a1]
        intro _ y4 e4
        subst e4
        refine ⟨g.1, by omega, ?_⟩
        rw [rb _ g.1 g.2.1]
        intro _ y6 e6 y7 e7
        subst e6; subst e7
        refine ⟨mt_i (by omega) (by omega), fun y8 e8 => ?_⟩
        subst e8
        exact ih _ _ _ g2.1 g2.2.1 (by omega) (by omega) q
  unfold f_X0_loopFrom f_X0_loopFrom_u0
  exact ⟨12, L 11 e 0 0 e0 e1 (by omega) (by omega) k⟩
theorem s_loopsBy {Q : Int → ml_St → Prop} {p h : Int} {σ : ml_St} {α β : Int → Int} (h2 : 2 ≤ h) (h5 : h ≤ 5) (ha : mt_M h α) (hb : mt_M h β) (ra : mt_eq h (σ (p + 1)) α) (rb : mt_eq h (σ 5) β) (k : Q (mt_cl h α β) σ) : f_X0_loopsBy σ p h Q := by
  have L : ∀ (N : Nat) (n : Nat), (n : Int) ≤ 2 * h → 2 * h - n < N → f_X0_loopsBy_u8 Q (f_X0_loopsBy_u47 Q p) p N σ h (mt_lbs α β n).2 (mt_lbs α β n).1 n := by
    intro N
    induction N with
    | zero => intro n n1 hN; omega
    | succ N ih =>
      intro n n1 hN
      obtain ⟨c1, c2, c3, c4⟩ := mt_lbs_C h5 ha hb n n1
      unfold f_X0_loopsBy_u8
      refine ⟨mt_i (by omega) (by omega), fun c => ?_, fun c => ⟨fun d => ?_, fun d => ?_⟩⟩
      · have : n = (2 * h).toNat := by omega
        subst this
        exact k
      · have e : mt_lbs α β (n + 1) = mt_lbs α β n := by
          conv => lhs; unfold mt_lbs
          exact if_neg d
        unfold f_X0_loopsBy_u41
        refine ⟨mt_i (by omega) (by omega), fun y1 e1 => ?_⟩
        subst e1
        rw [← e]
        exact ih (n + 1) (by omega) (by omega)
      · have e : mt_lbs α β (n + 1) = (b_or (mt_lbs α β n).1 (mt_lm α β n), (mt_lbs α β n).2 + 1) := by
          conv => lhs; unfold mt_lbs
          exact if_pos d
        refine s_loopFrom h5 ha hb (by omega) (by omega) ra rb ?_
        intro _ y5 e5
        refine ⟨mt_i (by omega) (by omega), fun y6 e6 => ?_⟩
        unfold f_X0_loopsBy_u41
        refine ⟨mt_i (by omega) (by omega), fun y1 e1 => ?_⟩
        subst e5; subst e6; subst e1
        have g := ih (n + 1) (by omega) (by omega)
        rw [e] at g
        exact g
  unfold f_X0_loopsBy f_X0_loopsBy_u0
  exact ⟨(2 * h).toNat + 1, L _ 0 (by omega) (by omega)⟩
/-- the model's closing: c -/
def mt_jv (h : Int) (τ : ml_St) (c : Int → Int) : Prop := ∀ e, 0 ≤ e → e < 2 * h → (τ 215 4 ≠ 0 → τ 217 e = c e) ∧ (τ 215 4 = 0 → c e = mt_str h e)
theorem s_closes {Q : Int → ml_St → Prop} {h x : Int} {τ : ml_St} {c : Int → Int} (h5 : h ≤ 5) (th : τ 215 2 = h) (x0 : 0 ≤ x) (x1 : x < 2 * h) (j : mt_jv h τ c) (k : Q (c x) τ) : f_X12_closes τ x Q := by
  obtain ⟨j1, j2⟩ := j x x0 x1
  unfold f_X12_closes f_X12_closes_u0
  refine fun _ => ⟨fun d => ?_, fun d => ⟨x0, by omega, fun _ => ?_⟩⟩
  · rw [th]
    have e := j2 d
    rw [(mt_str_e h5 x0 x1).1] at e
    refine fun _ => ⟨fun g _ => ⟨mt_i (by omega) (by omega), ?_⟩, fun g _ => ⟨mt_i (by omega) (by omega), ?_⟩⟩
    · unfold f_X12_closes_u39
      rw [if_neg (by omega)] at e
      rw [← e]; exact k
    · unfold f_X12_closes_u39
      rw [if_pos (by omega)] at e
      rw [← e]; exact k
  · unfold f_X12_closes_u39
    rw [j1 d]; exact k
theorem s_closing {Q : Int → ml_St → Prop} {m h : Int} {τ : ml_St} {α β : Int → Int} (h2 : 2 ≤ h) (h5 : h ≤ 5) (r : 0 ≤ m ∧ m < 64) (th : τ 215 2 = h) (ha : mt_M h α) (hb : mt_M h β) (ra : ∀ e, 0 ≤ e → e < 2 * h → τ 227 (10 * m + e) = α e) (rb : mt_jv h τ β) (k : ∀ τ', (∀ j, j ≠ 234 → τ' j = τ j) → Q (mt_cl h α β) τ') : f_X12_closing τ m Q := by
  -- clearing
  have C : ∀ (N : Nat) (n : Int) (σ : ml_St), 0 ≤ n → n ≤ 2 * h → 2 * h - n < N → (∀ j, j ≠ 234 → σ j = τ j) → (∀ j, 0 ≤ j → j < n → σ 234 j = 0) → (∀ σ, (∀ j, j ≠ 234 → σ j = τ j) → (∀ j, 0 ≤ j → j < 2 * h → σ 234 j = 0) → f_X12_closing_u27 Q σ m 0) → f_X12_closing_u4 Q (f_X12_closing_u27 Q) N σ m 0 n := by
    intro N
    induction N with
    | zero => intro n σ n0 n1 hN; omega
    | succ N ih =>
      intro n σ n0 n1 hN f hz kk
      unfold f_X12_closing_u4
      rw [f 215 (by omega), th]
      refine fun _ => ⟨mt_i (by omega) (by omega), fun c => ?_, fun c => ⟨n0, by omega, fun σ4 s4 => ⟨mt_i (by omega) (by omega), fun y5 e5 => ?_⟩⟩⟩
      · exact kk σ f (fun j j0 j1 => hz j j0 (by omega))
      · subst e5
        refine ih (n + 1) σ4 (by omega) (by omega) (by omega) (fun j hj => by rw [s4, ml_up_k hj, f j hj]) (fun j j0 j1 => ?_) kk
        rw [s4]
        by_cases q : j = n
        · rw [q, ml_up_same]
        · rw [ml_up_i q]; exact hz j j0 (by omega)
  -- the loops, one after another
  have L : ∀ (N : Nat) (n : Nat) (σ : ml_St), (n : Int) ≤ 2 * h → 2 * h - n < N → (∀ j, j ≠ 234 → σ j = τ j) → (∀ j, 0 ≤ j → j < 2 * h → σ 234 j = mb_t (mt_lbs α β n).1 j) → f_X12_closing_u29 Q (f_X12_closing_u114 Q) N σ m (mt_lbs α β n).2 n := by
    intro N
    induction N with
    | zero => intro n σ n1 hN; omega
    | succ N ih =>
      intro n σ n1 hN f hs
      obtain ⟨c1, c2, c3, c4⟩ := mt_lbs_C h5 ha hb n n1
      unfold f_X12_closing_u29
      rw [f 215 (by omega), th]
      refine fun _ => ⟨mt_i (by omega) (by omega), fun c => ?_, fun c => ⟨by omega, by omega, ?_⟩⟩
      · have : n = (2 * h).toNat := by omega
        subst this
        exact k σ f
      rw [hs n (by omega) (by omega)]
      refine fun _ => ⟨fun d => ⟨mt_i (by omega) (by omega), fun y6 e6 => ?_⟩, fun d => ?_⟩
      · subst e6
        have e : mt_lbs α β (n + 1) = (b_or (mt_lbs α β n).1 (mt_lm α β n), (mt_lbs α β n).2 + 1) := by
          conv => lhs; unfold mt_lbs
          exact if_pos d
        obtain ⟨p, p1, p2, p3, p4⟩ := mt_z_cyc (e := n) h5 ha hb (by omega) (by omega)
        obtain ⟨l1, l2⟩ := mt_lm_bit (e := n) h5 ha hb (by omega) (by omega) p1 p2 p3 p4
        obtain ⟨o1, o2⟩ := mb_or_m (k := 10) (by omega) c1 l1
        have zr := mt_z_r (e := n) ha hb (by omega) (by omega)
        -- every end of this loop is new
        have zn : ∀ i, mb_t (mt_lbs α β n).1 (mt_z α β n i) = 0 := by
          intro i
          induction i with
          | zero => exact d
          | succ i ih2 =>
            have g := c4 _ (zr i).1 (zr i).2 ih2
            rcases Nat.mod_two_eq_zero_or_one i with q | q
            · rw [mt_z_e q]; exact g.1
            · rw [mt_z_o q]; exact g.2
        have W : ∀ (M : Nat) (q : Nat) (σ : ml_St), q ≤ p → p - q < M → (∀ j, j ≠ 234 → σ j = τ j) → (∀ j, 0 ≤ j → j < 2 * h → (σ 234 j = 0 ∨ σ 234 j = 1) ∧ (σ 234 j = 1 ↔ mb_t (mt_lbs α β n).1 j = 1 ∨ ∃ i, i < 2 * q ∧ mt_z α β n i = j)) → f_X12_closing_u57 Q (f_X12_closing_u108 Q (f_X12_closing_u29 Q (f_X12_closing_u114 Q) N)) M σ m ((mt_lbs α β n).2 + 1) n (mt_z α β n (2 * q)) := by
          intro M
          induction M with
          | zero => intro q σ q1 hM; omega
          | succ M ihM =>
            intro q σ q1 hM f hs
            have zr2 := zr (2 * q)
            unfold f_X12_closing_u57
            refine ⟨zr2.1, by omega, fun _ => ⟨fun d1 => ?_, fun d1 => ?_⟩⟩
            · -- marked: the loop is closed
              have hqp : q = p := by
                rcases Nat.lt_or_ge q p with l | l
                · exfalso
                  obtain ⟨x1, x2⟩ := hs _ zr2.1 zr2.2
                  rcases x1 with x1 | x1
                  · exact d1 x1
                  · rcases x2.1 x1 with y | ⟨i, i1, i2⟩
                    · rw [zn] at y; omega
                    · exact p4 i (2 * q) i1 (by omega) i2
                · omega
              subst hqp
              unfold f_X12_closing_u108
              refine ⟨mt_i (by omega) (by omega), fun y1 e1 => ?_⟩
              subst e1
              have g := ih (n + 1) σ (by omega) (by omega) f (fun j j0 j1 => ?_)
              · rw [e] at g; exact g
              · rw [e]
                show σ 234 j = mb_t (b_or (mt_lbs α β n).1 (mt_lm α β n)) j
                obtain ⟨x1, x2⟩ := hs j j0 j1
                rw [o2 j j0 (by omega)]
                by_cases y : mb_t (mt_lbs α β n).1 j = 1 ∨ mb_t (mt_lm α β n) j = 1
                · rw [if_pos y]
                  exact x2.2 (y.elim Or.inl (fun y => Or.inr ((l2 j j0 j1).1 y)))
                · rw [if_neg y]
                  rcases x1 with x1 | x1
                  · exact x1
                  · exact absurd ((x2.1 x1).elim Or.inl (fun y => Or.inr ((l2 j j0 j1).2 y))) y
            · have hqp : q < p := by
                rcases Nat.lt_or_ge q p with l | l
                · exact l
                · exfalso
                  have : q = p := by omega
                  subst this
                  have := (hs _ zr2.1 zr2.2).2.2 (Or.inr ⟨0, by omega, by rw [p3]; rfl⟩)
                  omega
              refine ⟨zr2.1, by omega, fun σ3 s3 => ⟨mt_i (by omega) (by omega), mt_i (by omega) (by omega), by omega, by omega, ?_⟩⟩
              have v : σ3 227 (10 * m + mt_z α β n (2 * q)) = mt_z α β n (2 * q + 1) := by rw [s3, ml_up_k (by omega), f 227 (by omega), ra _ zr2.1 zr2.2, mt_z_e (by omega)]
              rw [v]
              intro _ y7 e7
              subst e7
              have zr3 := zr (2 * q + 1)
              refine ⟨zr3.1, by omega, fun σ8 s8 => ?_⟩
              have f8 : ∀ j, j ≠ 234 → σ8 j = τ j := fun j hj => by rw [s8, ml_up_k hj, s3, ml_up_k hj, f j hj]
              have z2 : β (mt_z α β n (2 * q + 1)) = mt_z α β n (2 * (q + 1)) := (mt_z_o (i := 2 * q + 1) (by omega)).symm
              refine s_closes h5 (by rw [f8 215 (by omega), th]) zr3.1 zr3.2 (c := β) (fun e e0 e1 => by rw [f8 215 (by omega), f8 217 (by omega)]; exact rb e e0 e1) ?_
              intro _
              rw [z2]
              refine ihM (q + 1) σ8 (by omega) (by omega) f8 (fun j j0 j1 => ?_)
              obtain ⟨x1, x2⟩ := hs j j0 j1
              rw [s8, s3]
              by_cases y1 : j = mt_z α β n (2 * q + 1)
              · rw [y1, ml_up_same]
                exact ⟨Or.inr rfl, fun _ => Or.inr ⟨2 * q + 1, by omega, rfl⟩, fun _ => rfl⟩
              · rw [ml_up_i y1]
                by_cases y2 : j = mt_z α β n (2 * q)
                · rw [y2, ml_up_same]
                  exact ⟨Or.inr rfl, fun _ => Or.inr ⟨2 * q, by omega, rfl⟩, fun _ => rfl⟩
                · rw [ml_up_i y2]
                  refine ⟨x1, fun c => ?_, fun c => x2.2 ?_⟩
                  · rcases x2.1 c with c | ⟨i, i1, i2⟩
                    · exact Or.inl c
                    · exact Or.inr ⟨i, by omega, i2⟩
                  · rcases c with c | ⟨i, i1, i2⟩
                    · exact Or.inl c
                    · have n1 : i ≠ 2 * q + 1 := fun c => y1 (by rw [← i2, c])
                      have n2 : i ≠ 2 * q := fun c => y2 (by rw [← i2, c])
                      exact Or.inr ⟨i, by omega, i2⟩
        refine ⟨p + 1, W (p + 1) 0 σ (by omega) (by omega) f (fun j j0 j1 => ?_)⟩
        rw [hs j j0 j1]
        exact ⟨mb_t_01 _ _, fun c => Or.inl c, fun c => c.elim id (fun ⟨i, i1, _⟩ => absurd i1 (by omega))⟩
      · have e : mt_lbs α β (n + 1) = mt_lbs α β n := by
          conv => lhs; unfold mt_lbs
          exact if_neg d
        unfold f_X12_closing_u108
        refine ⟨mt_i (by omega) (by omega), fun y1 e1 => ?_⟩
        subst e1
        rw [← e]
        exact ih (n + 1) σ (by omega) (by omega) f (by rw [e]; exact hs)
  unfold f_X12_closing f_X12_closing_u0
  refine ⟨(2 * h).toNat + 1, C _ 0 τ (by omega) (by omega) (by omega) (fun _ _ => rfl) (fun j j0 j1 => absurd j1 (by omega)) (fun σ f hz => ?_)⟩
  unfold f_X12_closing_u27
  refine ⟨(2 * h).toNat + 1, L _ 0 σ (by omega) (by omega) f (fun j j0 j1 => ?_)⟩
  rw [hz j j0 j1]
  exact (mb_0 j).symm
