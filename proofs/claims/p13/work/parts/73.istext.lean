theorem s_isText {Q : Int → ml_St → Prop} {τ : ml_St} {n h w : Int} (n0 : 0 ≤ n) (n1 : n ≤ 100) (h2 : 2 ≤ h) (h5 : h ≤ 5) (w0 : 0 ≤ w) (w1 : w ≤ 16) (th : τ 215 2 = h) (tI : ∀ i, 0 ≤ i → i < n → ml_I8 (τ 216 i)) (k : ∀ i' d', Q (if mt_gr (τ 216) n h w (n.toNat + 1) 0 0 1 = 0 then 1 else 0) (mt_ms τ i' n (mt_gr (τ 216) n h w (n.toNat + 1) 0 0 1) d')) : f_X12_isText τ w n Q := by
  obtain ⟨G, hG⟩ : ∃ G : Int → Prop, ∀ f, G f ↔ ∀ i' d', Q (if f = 0 then 1 else 0) (mt_ms τ i' n f d') := ⟨_, fun _ => Iff.rfl⟩
  have k := (hG _).2 k
  have e9 : ∀ i f d, mt_ms τ i n f d 215 9 = i := fun _ _ _ => rfl
  have e10 : ∀ i f d, mt_ms τ i n f d 215 10 = n := fun _ _ _ => rfl
  have e12 : ∀ i f d, mt_ms τ i n f d 215 12 = d := fun _ _ _ => rfl
  have eh : ∀ i f d, mt_ms τ i n f d 215 2 = h := fun _ _ _ => th
  have uc := fun (j : Int) (hj : 0 ≤ j) => mt_u_c (t := τ 216) (n := n) (i := j) (fun c => tI j hj c)
  have EX : ∀ i f d, (G f) → f_X12_isText_u168 Q (mt_ms τ i n f d) := by
    intro i f d kk
    unfold f_X12_isText_u168
    refine s_isGood (fun c _ => ?_) (fun c _ => ?_)
    · have := (hG _).1 kk i d; rw [if_pos c] at this; exact this
    · have := (hG _).1 kk i d; rw [if_neg c] at this; exact this
  have EF : ∀ (N : Nat) i f d need, f ≠ 0 → (G f) → f_X12_isText_u22 Q (f_X12_isText_u168 Q) (N + 1) (mt_ms τ i n f d) w need := by
    intro N i f d need hf kk
    unfold f_X12_isText_u22
    exact s_isGood (fun c => absurd c hf) (fun _ _ => ⟨fun _ => EX i f d kk, fun c => absurd rfl c⟩)
  have L : ∀ (F N : Nat) (i d need : Int), 0 ≤ i → i ≤ n → 0 ≤ d → d ≤ 6 → (need = 0 ∨ need = 1) → n - i < F → F + 1 < N →
      (G (mt_gr (τ 216) n h w F i d need)) → f_X12_isText_u22 Q (f_X12_isText_u168 Q) N (mt_ms τ i n 0 d) w need := by
    intro F
    induction F with
    | zero => intro N i d need i0 i1 d0 d6 hn hF; omega
    | succ F ih =>
      intro N i d need i0 i1 d0 d6 hn hF hN kk
      obtain ⟨N, rfl⟩ : ∃ N', N = N' + 1 := ⟨N - 1, by omega⟩
      -- behind an item: times, then on
      have RT : ∀ (j d need : Int), 0 ≤ j → j ≤ n → n - j < F → 0 ≤ d → d ≤ 6 → need = 0 → (G (if mt_tf (τ 216) n j ≠ 0 then mt_tf (τ 216) n j else mt_gr (τ 216) n h w F (mt_tn (τ 216) n j) d 0)) →
          f_X12_repeatsTold (mt_ms τ j n 0 d) (fun σ5 => f_X12_isText_u22 Q (f_X12_isText_u168 Q) N σ5 w need) := by
        intro j d need j0 j1 hj d0 d6 hn kk
        refine s_repeatsTold j0 j1 n1 tI (fun i' i0' i1' et => ?_)
        by_cases z : mt_tf (τ 216) n j = 0
        · rw [if_neg (fun c => c z)] at kk
          rw [z, et z]
          have r := mt_tn_r (t := τ 216) j1
          exact ih N _ d need (by omega) r.2 d0 d6 (Or.inl hn) (by omega) (by omega) (by rw [hn]; exact kk)
        · rw [if_pos z] at kk
          obtain ⟨N, rfl⟩ : ∃ N', N = N' + 1 := ⟨N - 1, by omega⟩
          exact EF N i' _ d need z kk
      -- a fault: on, and out
      have WR : ∀ (x kd d s0 : Int), 0 ≤ kd ∧ kd ≤ 5 → kd ≠ 0 → 0 ≤ x ∧ x ≤ 200 → (G (-1000 * kd - x)) → f_X12_wrongs (mt_ms τ x n 0 d) kd x (fun σ13 => f_X12_item_u155 (fun σ1 => f_X12_isGood σ1 (fun r2 σ2 => ∀ _ : ml_B r2, (r2 = 0 → f_X12_isText_u162 Q (f_X12_isText_u22 Q (f_X12_isText_u168 Q) N) σ2 w s0) ∧ (r2 ≠ 0 → (s0 ≠ 0 → f_X12_isText_u162 Q (f_X12_isText_u22 Q (f_X12_isText_u168 Q) N) σ2 w s0) ∧ (s0 = 0 → f_X12_repeatsTold σ2 (fun σ5 => f_X12_isText_u162 Q (f_X12_isText_u22 Q (f_X12_isText_u168 Q) N) σ5 w s0))))) σ13) := by
        intro x kd d s0 hk hk0 hx kk
        refine s_wrongs hk ⟨hx.1, by omega⟩ ?_
        unfold f_X12_item_u155
        rw [e9]
        refine fun _ => ⟨mt_I (by omega) (by omega), fun σ3 g3 => ?_⟩
        rw [g3, mt_ms_9]
        refine s_isGood (fun c => absurd c (by omega)) (fun _ _ => ⟨fun _ => ?_, fun c => absurd rfl c⟩)
        unfold f_X12_isText_u162
        obtain ⟨N, rfl⟩ : ∃ N', N = N' + 1 := ⟨N - 1, by omega⟩
        exact EF N _ _ d s0 (by omega) kk
      have GD : ∀ (x d s0 : Int), 0 ≤ x ∧ x ≤ 200 → (s0 ≠ 0 → f_X12_isText_u22 Q (f_X12_isText_u168 Q) N (mt_ms τ (x + 1) n 0 d) w s0) → (s0 = 0 → f_X12_repeatsTold (mt_ms τ (x + 1) n 0 d) (fun σ5 => f_X12_isText_u22 Q (f_X12_isText_u168 Q) N σ5 w s0)) → f_X12_item_u155 (fun σ1 => f_X12_isGood σ1 (fun r2 σ2 => ∀ _ : ml_B r2, (r2 = 0 → f_X12_isText_u162 Q (f_X12_isText_u22 Q (f_X12_isText_u168 Q) N) σ2 w s0) ∧ (r2 ≠ 0 → (s0 ≠ 0 → f_X12_isText_u162 Q (f_X12_isText_u22 Q (f_X12_isText_u168 Q) N) σ2 w s0) ∧ (s0 = 0 → f_X12_repeatsTold σ2 (fun σ5 => f_X12_isText_u162 Q (f_X12_isText_u22 Q (f_X12_isText_u168 Q) N) σ5 w s0))))) (mt_ms τ x n 0 d) := by
        intro x d s0 hx k1 k2
        unfold f_X12_item_u155
        rw [e9]
        refine fun _ => ⟨mt_I (by omega) (by omega), fun σ3 g3 => ?_⟩
        rw [g3, mt_ms_9]
        exact s_isGood (fun _ _ => ⟨fun c => absurd c (by omega), fun _ => ⟨k1, k2⟩⟩) (fun c => absurd rfl c)
      have hu := uc i i0
      have uci : i < n → mt_c (τ 216) n i = τ 216 i := fun c => by unfold mt_c; rw [if_pos c]
      have ucn : ¬ i < n → mt_c (τ 216) n i = 0 := fun c => by unfold mt_c; rw [if_neg c]
      -- an item wanted or allowed
      have IT : ¬ (i < n ∧ τ 216 i = 41 ∧ d ≠ 0 ∧ need = 0) → ¬ (n ≤ i ∧ need = 0) → f_X12_isText_u125 Q (f_X12_isText_u22 Q (f_X12_isText_u168 Q) N) (mt_ms τ i n 0 d) w := by
        intro nc ne
        unfold mt_gr at kk
        unfold f_X12_isText_u125
        refine s_here i0 n1 (fun _ => ?_)
        have go : ∀ s0, (mt_u (τ 216) n i = 40 → s0 = 1) → (mt_u (τ 216) n i ≠ 40 → s0 = 0) → f_X12_isText_u139 Q (f_X12_isText_u22 Q (f_X12_isText_u168 Q) N) (mt_ms τ i n 0 d) w s0 := by
          intro s0 hs1 hs0
          have F1 : (G (-1000 - i)) → f_X12_item_u146 (fun σ1 => f_X12_isGood σ1 (fun r2 σ2 => ∀ _ : ml_B r2, (r2 = 0 → f_X12_isText_u162 Q (f_X12_isText_u22 Q (f_X12_isText_u168 Q) N) σ2 w s0) ∧ (r2 ≠ 0 → (s0 ≠ 0 → f_X12_isText_u162 Q (f_X12_isText_u22 Q (f_X12_isText_u168 Q) N) σ2 w s0) ∧ (s0 = 0 → f_X12_repeatsTold σ2 (fun σ5 => f_X12_isText_u162 Q (f_X12_isText_u22 Q (f_X12_isText_u168 Q) N) σ5 w s0))))) (mt_ms τ i n 0 d) := by
            intro kk
            unfold f_X12_item_u146
            rw [e9]
            refine fun _ => WR i 1 d s0 (by omega) (by omega) (by omega) ?_
            rw [show -1000 * 1 - i = -1000 - i by omega]; exact kk
          have RD : i < n → (τ 216 i = 120 ∨ τ 216 i = 117) → s0 = 0 → f_X12_item_u54 (fun σ1 => f_X12_isGood σ1 (fun r2 σ2 => ∀ _ : ml_B r2, (r2 = 0 → f_X12_isText_u162 Q (f_X12_isText_u22 Q (f_X12_isText_u168 Q) N) σ2 w s0) ∧ (r2 ≠ 0 → (s0 ≠ 0 → f_X12_isText_u162 Q (f_X12_isText_u22 Q (f_X12_isText_u168 Q) N) σ2 w s0) ∧ (s0 = 0 → f_X12_repeatsTold σ2 (fun σ5 => f_X12_isText_u162 Q (f_X12_isText_u22 Q (f_X12_isText_u168 Q) N) σ5 w s0))))) (mt_ms τ i n 0 d) := by
            intro ci hc hs
            rw [if_neg (by omega), if_neg (by omega), if_neg (by omega), if_pos hc] at kk
            have hu1 := uc (i + 1) (by omega)
            unfold f_X12_item_u54
            rw [e9]
            refine fun _ => ⟨mt_I (by omega) (by omega), fun σ3 g3 => ?_⟩
            rw [g3, mt_ms_9]
            refine s_here (by omega) n1 (fun _ => s_dig12 (fun z => ?_) (fun z => ?_))
            · rw [if_neg (by omega)] at kk
              refine fun _ => ⟨fun _ => ?_, fun c => absurd c (by omega)⟩
              refine s_here (by omega) n1 ?_
              rw [eh]
              refine fun _ => ⟨mt_I (by omega) (by omega), fun _ => ⟨mt_I (by omega) (by omega), fun c => ?_, fun c => ?_⟩⟩
              · rw [if_neg (by omega)] at kk
                have jn : i + 1 < n := by
                  rcases Int.lt_or_le (i + 1) n with c | c
                  · exact c
                  · unfold mt_u at z; rw [if_neg (by omega)] at z; omega
                refine GD (i + 1) d s0 (by omega) (fun c => absurd hs c) (fun _ => ?_)
                rw [show i + 1 + 1 = i + 2 by omega]
                exact RT (i + 2) d s0 (by omega) (by omega) (by omega) d0 d6 hs kk
              · rw [if_pos (by omega)] at kk
                rw [e9]
                refine fun _ => WR (i + 1) 3 d s0 (by omega) (by omega) (by omega) ?_
                rw [show -1000 * 3 - (i + 1) = -3000 - (i + 1) by omega]; exact kk
            · rw [if_pos (by omega)] at kk
              refine fun _ => ⟨fun c => absurd rfl c, fun _ => ?_⟩
              rw [e9]
              refine fun _ => WR (i + 1) 1 d s0 (by omega) (by omega) (by omega) ?_
              rw [show -1000 * 1 - (i + 1) = -1000 - (i + 1) by omega]; exact kk
          unfold f_X12_isText_u139 f_X12_item f_X12_item_u0
          refine s_here i0 n1 (fun _ => ⟨fun c40 => ⟨fun c120 => ?_, fun c120 => ⟨fun c117 => ?_, fun c117 => ?_⟩⟩, fun c40 => ?_⟩)
          · have ci : i < n := by
              rcases Int.lt_or_le i n with c | c
              · exact c
              · have := ucn (by omega); omega
            exact RD ci (Or.inl (by have := uci ci; omega)) (hs0 c40)
          · -- neither sign: a letter, or nothing that may stand here
            by_cases ci : i < n
            · have e := uci ci
              rw [if_neg (by omega), if_neg (by omega)] at kk
              have f41 : τ 216 i = 41 → G (-1000 - i) := by
                intro c
                rw [if_pos c, if_pos (by omega)] at kk
                exact kk
              refine ⟨fun c65 => ?_, fun c65 => ⟨fun c81 => ?_, fun c81 => ⟨mt_I (by omega) (by omega), fun cw => ?_, fun cw => ?_⟩⟩⟩
              · by_cases c41 : τ 216 i = 41
                · exact F1 (f41 c41)
                · rw [if_neg c41, if_neg (by omega), if_neg (by omega)] at kk
                  exact F1 kk
              · rw [if_neg (by omega), if_neg (by omega), if_neg (by omega)] at kk
                exact F1 kk
              · rw [if_neg (by omega), if_neg (by omega), if_pos ⟨by omega, by omega⟩, if_neg (by omega)] at kk
                refine GD i d s0 (by omega) (fun c => absurd (hs0 c40) c) (fun _ => ?_)
                exact RT (i + 1) d s0 (by omega) (by omega) (by omega) d0 d6 (hs0 c40) kk
              · rw [if_neg (by omega), if_neg (by omega), if_pos ⟨by omega, by omega⟩, if_pos (by omega)] at kk
                rw [e9]
                refine fun _ => WR i 3 d s0 (by omega) (by omega) (by omega) ?_
                rw [show -1000 * 3 - i = -3000 - i by omega]; exact kk
            · have e := ucn ci
              rw [if_pos (by omega), if_neg (by omega)] at kk
              have ein : i = n := by omega
              refine ⟨fun c65 => ?_, fun c65 => absurd (by omega) c65⟩
              exact F1 (by rw [ein]; exact kk)
          · have ci : i < n := by
              rcases Int.lt_or_le i n with c | c
              · exact c
              · have := ucn (by omega); omega
            exact RD ci (Or.inr (by have := uci ci; omega)) (hs0 c40)
          · have ci : i < n := by
              rcases Int.lt_or_le i n with c | c
              · exact c
              · have := ucn (by omega); omega
            have e := uci ci
            rw [if_neg (by omega), if_pos (by omega)] at kk
            have s1 := hs1 c40
            rw [e12]
            refine fun _ => ⟨fun c6 => ?_, fun c6 => ?_⟩
            · rw [if_neg c6] at kk
              unfold f_X12_item_u29
              rw [e12]
              refine fun _ => ⟨mt_I (by omega) (by omega), fun σ3 g3 => ?_⟩
              rw [g3, mt_ms_12]
              refine GD i (d + 1) s0 (by omega) (fun _ => ?_) (fun c => absurd c (by omega))
              rw [s1]
              exact ih N (i + 1) (d + 1) 1 (by omega) (by omega) (by omega) (by omega) (Or.inr rfl) (by omega) (by omega) kk
            · rw [if_pos c6] at kk
              rw [e9]
              refine fun _ => s_wrongs ⟨by omega, by omega⟩ ⟨by omega, by omega⟩ ?_
              unfold f_X12_item_u29
              rw [e12]
              refine fun _ => ⟨mt_I (by omega) (by omega), fun σ3 g3 => ?_⟩
              rw [g3, mt_ms_12]
              unfold f_X12_item_u155
              rw [e9]
              refine fun _ => ⟨mt_I (by omega) (by omega), fun σ4 g4 => ?_⟩
              rw [g4, mt_ms_9]
              refine s_isGood (fun c => absurd c (by omega)) (fun _ _ => ⟨fun _ => ?_, fun c => absurd rfl c⟩)
              unfold f_X12_isText_u162
              obtain ⟨N, rfl⟩ : ∃ N', N = N' + 1 := ⟨N - 1, by omega⟩
              refine EF N _ _ _ _ (by omega) ?_
              rw [show -1000 * 4 - i = -4000 - i by omega]; exact kk
        exact ⟨fun c => go 0 (fun z => absurd z c) (fun _ => rfl), fun c => go 1 (fun _ => rfl) (fun z => absurd c z)⟩
      -- the parts of one round
      have U51 : ¬ (n ≤ i ∧ need = 0 ∧ d = 0) → f_X12_isText_u51 Q (f_X12_isText_u22 Q (f_X12_isText_u168 Q) N) (mt_ms τ i n 0 d) w need := by
        intro nE
        have U98 : ¬ (i < n ∧ τ 216 i = 41 ∧ d ≠ 0 ∧ need = 0) → f_X12_isText_u98 Q (f_X12_isText_u22 Q (f_X12_isText_u168 Q) N) (mt_ms τ i n 0 d) w need := by
          intro nc
          unfold f_X12_isText_u98
          refine ⟨fun c => IT nc (fun z => c z.2), fun c => ?_⟩
          rw [e9, e10]
          refine fun _ _ => ⟨fun c1 => IT nc (fun z => by omega), fun c1 => ?_⟩
          refine fun _ => s_wrongs ⟨by omega, by omega⟩ ⟨by omega, by omega⟩ ?_
          obtain ⟨N, rfl⟩ : ∃ N', N = N' + 1 := ⟨N - 1, by omega⟩
          refine EF N _ _ _ _ (by omega) ?_
          unfold mt_gr at kk
          rw [if_pos (by omega), if_neg (by omega)] at kk
          rw [show -1000 * 1 - i = -1000 - n by omega]; exact kk
        unfold f_X12_isText_u51
        refine ⟨fun c => U98 (fun z => c z.2.2.2), fun c => s_here i0 n1 (fun _ => ⟨fun c41 => U98 (fun z => ?_), fun c41 => ?_⟩)⟩
        · have := uci z.1; omega
        · have ci : i < n := by
            rcases Int.lt_or_le i n with c | c
            · exact c
            · have := ucn (by omega); omega
          have e := uci ci
          rw [e12]
          refine fun _ => ⟨fun cd => U98 (fun z => z.2.2.1 (by omega)), fun cd _ => ⟨mt_I (by omega) (by omega), fun σ8 g8 => ?_⟩⟩
          rw [g8, mt_ms_12, e9]
          refine fun _ => ⟨mt_I (by omega) (by omega), fun σ11 g11 => ?_⟩
          rw [g11, mt_ms_9]
          unfold mt_gr at kk
          rw [if_neg (by omega), if_neg (by omega), if_pos (by omega), if_neg (by omega)] at kk
          exact RT (i + 1) (d - 1) need (by omega) (by omega) (by omega) (by omega) (by omega) c kk
      unfold f_X12_isText_u22
      refine s_isGood (fun _ _ => ⟨fun c => absurd c (by omega), fun _ => ?_⟩) (fun c => absurd rfl c)
      rw [e9, e10, e12]
      have OUT : n ≤ i ∧ need = 0 ∧ d = 0 → f_X12_isText_u168 Q (mt_ms τ i n 0 d) := by
        intro z
        unfold mt_gr at kk
        rw [if_pos z.1, if_pos z.2] at kk
        exact EX i 0 d kk
      refine fun _ _ => ⟨fun c => U51 (by omega), fun c => ⟨fun c1 => U51 (by omega), fun c1 _ => ⟨fun c2 => OUT (by omega), fun c2 => U51 (by omega)⟩⟩⟩
  unfold f_X12_isText f_X12_isText_u0
  intro σ1 g1 σ2 g2 σ3 g3 σ4 g4
  have e4 : σ4 = mt_ms τ 0 n 0 0 := by
    rw [g4, g3, g2, g1]
    funext a b
    unfold ml_up mt_ms
    by_cases q : a = 215
    · subst q
      by_cases r0 : b = 9
      · subst r0; simp
      by_cases r1 : b = 10
      · subst r1; simp
      by_cases r2 : b = 11
      · subst r2; simp
      by_cases r3 : b = 12
      · subst r3; simp
      simp [r0, r1, r2, r3]
    · simp [q]
  rw [e4]
  exact ⟨n.toNat + 3, L (n.toNat + 1) (n.toNat + 3) 0 0 1 (by omega) n0 (by omega) (by omega) (Or.inr rfl) (by omega) (by omega) k⟩
