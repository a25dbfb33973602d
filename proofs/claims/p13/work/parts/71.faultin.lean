theorem mt_tn_r {t : Int → Int} {n i : Int} (h : i ≤ n) : i ≤ mt_tn t n i ∧ mt_tn t n i ≤ n := by
  obtain ⟨r1, r2, r3⟩ := mt_ds_r (t := t) (n := n) 9 (i + 1)
  unfold mt_tn
  split
  · have := r3 (by omega); omega
  · omega
theorem mt_tf_le {t : Int → Int} {n i : Int} (h0 : 0 ≤ i) : mt_tf t n i ≤ 0 := by
  obtain ⟨r1, r2, r3⟩ := mt_ds_r (t := t) (n := n) 9 (i + 1)
  unfold mt_tf
  (repeat' split) <;> omega
theorem mt_gr_le {t : Int → Int} {n h w : Int} : ∀ (F : Nat) (i d need : Int), 0 ≤ n → 0 ≤ i → mt_gr t n h w F i d need ≤ 0 := by
  intro F
  induction F with
  | zero => intro i d need _ _; exact Int.le_refl 0
  | succ F ih =>
    intro i d need n0 i0
    have z1 := mt_tf_le (t := t) (n := n) (i := i + 1) (by omega)
    have z2 := mt_tf_le (t := t) (n := n) (i := i + 2) (by omega)
    unfold mt_gr
    by_cases c0 : n ≤ i
    · rw [if_pos c0]; split <;> omega
    have tn : ∀ j, 0 ≤ j → 0 ≤ mt_tn t n j := fun j hj => by
      have := (mt_ds_r (t := t) (n := n) 9 (j + 1)).1
      unfold mt_tn; split <;> omega
    have t1 := tn (i + 1) (by omega)
    have t2 := tn (i + 2) (by omega)
    have g1 := ih (i + 1) (d + 1) 1 n0 (by omega)
    have g2 := ih (mt_tn t n (i + 1)) (d - 1) 0 n0 t1
    have g3 := ih (mt_tn t n (i + 2)) d 0 n0 t2
    have g4 := ih (mt_tn t n (i + 1)) d 0 n0 t1
    rw [if_neg c0]
    (repeat' split) <;> omega
theorem s_faultIn {Q : Int → ml_St → Prop} {σ0 : ml_St} {p n h w : Int} (tx : ml_tx p) (p6 : p ≠ 6) (n0 : 0 ≤ n) (n1 : n ≤ 100) (h2 : 2 ≤ h) (h5 : h ≤ 5) (w0 : 0 ≤ w) (w1 : w ≤ 16) (tI : ∀ i, 0 ≤ i → i < n → ml_I8 (σ0 p i)) (k : ∀ σ', (∀ j, j ≠ 6 → σ' j = σ0 j) → Q (mt_gr (σ0 p) n h w (n.toNat + 1) 0 0 1) σ') : f_X2_faultIn σ0 p n h w Q := by
  have fr : ∀ i d rep need f j, j ≠ 6 → mt_gs σ0 p n i d rep need f j = σ0 j := fun i d rep need f j hj => mt_gs_k hj
  -- the end of the loop
  have E0 : ∀ i d rep need f, f ≠ 0 → I32 f → (∀ σ', (∀ j, j ≠ 6 → σ' j = σ0 j) → Q f σ') → f_X2_faultIn_u76 Q p (mt_gs σ0 p n i d rep need f) n := by
    intro i d rep need f hf _ kk
    have e6 : mt_gs σ0 p n i d rep need f 6 6 = f := rfl
    unfold f_X2_faultIn_u76
    rw [e6]
    refine fun _ => ⟨fun _ => ?_, fun c => absurd c hf⟩
    unfold f_X2_faultIn_u106
    rw [e6]
    exact fun _ => kk _ (fun j hj => fr _ _ _ _ _ j hj)
  have EX : ∀ (N : Nat) i d rep need f, f ≠ 0 → I32 f → (∀ σ', (∀ j, j ≠ 6 → σ' j = σ0 j) → Q f σ') → f_X2_faultIn_u35 Q (f_X2_faultIn_u76 Q p) p (N + 1) (mt_gs σ0 p n i d rep need f) n h w := by
    intro N i d rep need f hf hI kk
    have e6 : mt_gs σ0 p n i d rep need f 6 6 = f := rfl
    unfold f_X2_faultIn_u35
    rw [e6]
    exact fun _ => ⟨fun _ => E0 i d rep need f hf hI kk, fun _ _ => ⟨fun _ => E0 i d rep need f hf hI kk, fun c => absurd c hf⟩⟩
  have EN : ∀ i d rep need, (need = 0 ∨ need = 1) → 0 ≤ d → (∀ σ', (∀ j, j ≠ 6 → σ' j = σ0 j) → Q (if need = 0 ∧ d = 0 then 0 else -1000 - n) σ') → f_X2_faultIn_u76 Q p (mt_gs σ0 p n i d rep need 0) n := by
    intro i d rep need hn hd kk
    have e6 : mt_gs σ0 p n i d rep need 0 6 6 = 0 := rfl
    have e5 : mt_gs σ0 p n i d rep need 0 6 5 = need := rfl
    have e3 : mt_gs σ0 p n i d rep need 0 6 3 = d := rfl
    have flt : ¬ (need = 0 ∧ d = 0) → f_X2_faultIn_u97 Q p (mt_gs σ0 p n i d rep need 0) n := by
      intro c
      unfold f_X2_faultIn_u97
      refine s_faultAt ⟨by omega, by omega⟩ ⟨by omega, by omega⟩ (fun _ _ σ2 e2 => ?_)
      unfold f_X2_faultIn_u106
      rw [e2, mt_gs_6]
      rw [if_neg c] at kk
      rw [show (-1000 * 1 - n) = -1000 - n by omega]
      exact fun _ => kk _ (fun j hj => fr _ _ _ _ _ j hj)
    unfold f_X2_faultIn_u76
    rw [e6, e5, e3]
    refine fun _ => ⟨fun c => absurd rfl c, fun _ _ => ⟨fun c => flt (fun q => c q.1), fun c _ => ⟨fun d0 => ?_, fun d0 => flt (fun q => d0 (by omega))⟩⟩⟩
    unfold f_X2_faultIn_u106
    rw [e6]
    rw [if_pos ⟨c, by omega⟩] at kk
    exact fun _ => kk _ (fun j hj => fr _ _ _ _ _ j hj)
  have L : ∀ (F N : Nat) (i d rep need : Int), 0 ≤ i → i ≤ n → 0 ≤ d → d ≤ 6 → (rep = 0 ∨ rep = 1) → (need = 0 ∨ need = 1) → (rep = 0 ∨ ¬ (i < n ∧ σ0 p i = 42)) → n - i < F → n - i + 1 < N →
      (∀ σ', (∀ j, j ≠ 6 → σ' j = σ0 j) → Q (mt_gr (σ0 p) n h w F i d need) σ') → f_X2_faultIn_u35 Q (f_X2_faultIn_u76 Q p) p N (mt_gs σ0 p n i d rep need 0) n h w := by
    intro F
    induction F with
    | zero => intro N i d rep need i0 i1 d0 d6 hr hn hs hF; omega
    | succ F ih =>
      -- behind an item
      have AF : ∀ (N : Nat) (i d : Int), 0 ≤ i → i ≤ n → 0 ≤ d → d ≤ 6 → n - i < F → n - i + 1 < N → (∀ σ', (∀ j, j ≠ 6 → σ' j = σ0 j) → Q (if mt_tf (σ0 p) n i ≠ 0 then mt_tf (σ0 p) n i else mt_gr (σ0 p) n h w F (mt_tn (σ0 p) n i) d 0) σ') → f_X2_faultIn_u35 Q (f_X2_faultIn_u76 Q p) p N (mt_gs σ0 p n i d 1 0 0) n h w := by
        intro N i d i0 i1 d0 d6 hF hN kk
        by_cases q : i < n ∧ σ0 p i = 42
        · obtain ⟨N, rfl⟩ : ∃ N', N = N' + 1 := ⟨N - 1, by omega⟩
          have e6 : mt_gs σ0 p n i d 1 0 0 6 6 = 0 := rfl
          have e2 : mt_gs σ0 p n i d 1 0 0 6 2 = i := rfl
          have e4 : mt_gs σ0 p n i d 1 0 0 6 4 = 1 := rfl
          unfold f_X2_faultIn_u35
          rw [e6, e2, mt_gs_k p6, q.2]
          refine fun _ => ⟨fun c => absurd c (by omega), fun _ _ => ⟨fun c => absurd rfl c, fun _ _ => ⟨i0, by omega, fun _ => ?_⟩⟩⟩
          unfold f_X2_read f_X2_read_u0
          refine ⟨fun _ => ⟨fun _ => ⟨fun c => absurd c (by omega), fun _ => ⟨fun _ => ⟨fun _ => ?_, fun c => absurd c (by omega)⟩, fun c => absurd c (by omega)⟩⟩, fun c => absurd c (by omega)⟩, fun c => absurd c (by omega)⟩
          unfold f_X2_read_u78
          rw [e4]
          refine ⟨fun c => absurd rfl c, fun _ _ => ⟨fun c => absurd c (by omega), fun _ => s_readTimes2 tx p6 n1 i0 q.1 q.2 ?_⟩⟩
          unfold f_X2_read_u110
          try dsimp only
          obtain ⟨r1, r2, r3⟩ := mt_ds_r (t := σ0 p) (n := n) 9 (i + 1)
          have r3 := r3 (by omega)
          have e22 : ∀ v f, mt_gs σ0 p n v d 0 0 f 6 2 = v := fun _ _ => rfl
          rw [e22]
          refine fun _ => ⟨mt_I (by omega) (by omega), fun σ10 e10 => ?_⟩
          rw [e10, mt_gs_2]
          have etn : mt_tn (σ0 p) n i = i + mt_ds (σ0 p) n 9 (i + 1) + 1 := by unfold mt_tn; rw [if_pos q]; omega
          by_cases z : mt_tf (σ0 p) n i = 0
          · rw [z]
            rw [if_neg (fun c => c z)] at kk
            rw [← etn]
            exact ih N _ d 0 0 (by omega) (by omega) d0 d6 (Or.inl rfl) (Or.inl rfl) (Or.inl rfl) (by omega) (by omega) kk
          · rw [if_pos z] at kk
            obtain ⟨N, rfl⟩ : ∃ N', N = N' + 1 := ⟨N - 1, by omega⟩
            refine EX N _ _ _ _ _ z ?_ kk
            have := mt_tf_le (t := σ0 p) (n := n) (i := i) i0
            unfold mt_tf
            (repeat' split) <;> first | exact mt_I (by omega) (by omega)
        · have e1 : mt_tf (σ0 p) n i = 0 := by unfold mt_tf; rw [if_neg q]
          have e2 : mt_tn (σ0 p) n i = i := by unfold mt_tn; rw [if_neg q]
          rw [e1, e2] at kk
          rw [if_neg (fun c => c rfl)] at kk
          exact ih N i d 1 0 i0 i1 d0 d6 (Or.inr rfl) (Or.inl rfl) (Or.inr q) hF hN kk
      intro N i d rep need i0 i1 d0 d6 hr hn hs hF hN kk
      obtain ⟨N, rfl⟩ : ∃ N', N = N' + 1 := ⟨N - 1, by omega⟩
      have e6 : ∀ i d rep need f, mt_gs σ0 p n i d rep need f 6 6 = f := fun _ _ _ _ _ => rfl
      have e2 : ∀ i d rep need f, mt_gs σ0 p n i d rep need f 6 2 = i := fun _ _ _ _ _ => rfl
      have e3 : ∀ i d rep need f, mt_gs σ0 p n i d rep need f 6 3 = d := fun _ _ _ _ _ => rfl
      have e4 : ∀ i d rep need f, mt_gs σ0 p n i d rep need f 6 4 = rep := fun _ _ _ _ _ => rfl
      have e5 : ∀ i d rep need f, mt_gs σ0 p n i d rep need f 6 5 = need := fun _ _ _ _ _ => rfl
      unfold f_X2_faultIn_u35
      rw [e6, e2, mt_gs_k p6]
      unfold mt_gr at kk
      refine fun _ => ⟨fun c => ?_, fun c _ => ⟨fun c => absurd rfl c, fun _ _ => ⟨i0, by omega, fun _ => ?_⟩⟩⟩
      · rw [if_pos c] at kk
        exact EN i d rep need hn d0 kk
      rw [if_neg c] at kk
      have cI := tI i i0 (by omega)
      -- a fault at i, kind 1
      have F1 : (∀ σ', (∀ j, j ≠ 6 → σ' j = σ0 j) → Q (-1000 - i) σ') → f_X2_read_u98 (fun σ7 => ∀ _ : I32 (σ7 6 2), I32 ((σ7 6 2) + 1) ∧ ∀ σ10, σ10 = ml_up σ7 6 2 ((σ7 6 2) + 1) → f_X2_faultIn_u35 Q (f_X2_faultIn_u76 Q p) p N σ10 n h w) (mt_gs σ0 p n i d rep need 0) := by
        intro kk
        unfold f_X2_read_u98
        rw [e2]
        refine fun _ => s_faultAt ⟨by omega, by omega⟩ ⟨by omega, by omega⟩ (fun _ _ σ3 g3 => ?_)
        unfold f_X2_read_u110
        try dsimp only
        rw [g3, mt_gs_6, e2]
        refine fun _ => ⟨mt_I (by omega) (by omega), fun σ10 g10 => ?_⟩
        rw [g10, mt_gs_2]
        obtain ⟨N, rfl⟩ : ∃ N', N = N' + 1 := ⟨N - 1, by omega⟩
        rw [show (-1000 * 1 - i) = -1000 - i by omega]
        exact EX N _ _ _ _ _ (by omega) (mt_I (by omega) (by omega)) kk
      have F78 : (¬ (σ0 p i = 42 ∧ rep ≠ 0)) → (∀ σ', (∀ j, j ≠ 6 → σ' j = σ0 j) → Q (-1000 - i) σ') → f_X2_read_u78 (fun σ7 => ∀ _ : I32 (σ7 6 2), I32 ((σ7 6 2) + 1) ∧ ∀ σ10, σ10 = ml_up σ7 6 2 ((σ7 6 2) + 1) → f_X2_faultIn_u35 Q (f_X2_faultIn_u76 Q p) p N σ10 n h w) (mt_gs σ0 p n i d rep need 0) (σ0 p i) := by
        intro ns kk
        unfold f_X2_read_u78
        rw [e4]
        exact ⟨fun _ => F1 kk, fun c1 _ => ⟨fun _ => F1 kk, fun c2 => absurd ⟨c1, c2⟩ ns⟩⟩
      have ns : ¬ (σ0 p i = 42 ∧ rep ≠ 0) := fun q => by
        rcases hs with hs | hs
        · exact q.2 hs
        · exact hs ⟨by omega, q.1⟩
      have TI : ∀ (j d rep need x : Int), 0 ≤ j → j < n + 1 → 0 ≤ x → x ≤ 5 → (x ≠ 0 → ∀ σ', (∀ j, j ≠ 6 → σ' j = σ0 j) → Q (-1000 * x - j) σ') → (x = 0 → f_X2_faultIn_u35 Q (f_X2_faultIn_u76 Q p) p N (mt_gs σ0 p n (j + 1) d 1 0 0) n h w) → f_X2_takeItem (mt_gs σ0 p n j d rep need 0) x (fun σ7 => ∀ _ : I32 (σ7 6 2), I32 ((σ7 6 2) + 1) ∧ ∀ σ10, σ10 = ml_up σ7 6 2 ((σ7 6 2) + 1) → f_X2_faultIn_u35 Q (f_X2_faultIn_u76 Q p) p N σ10 n h w) := by
        intro j d rep need x j0 j1 x0 x5 ka kb
        refine s_takeItem ⟨j0, by omega⟩ ⟨x0, x5⟩ ?_
        try dsimp only
        rw [e2]
        refine fun _ => ⟨mt_I (by omega) (by omega), fun σ10 g10 => ?_⟩
        rw [g10, mt_gs_2]
        by_cases z : x = 0
        · rw [if_pos z]; exact kb z
        · rw [if_neg z]
          obtain ⟨N, rfl⟩ : ∃ N', N = N' + 1 := ⟨N - 1, by omega⟩
          exact EX N _ _ _ _ _ (by omega) (mt_I (by omega) (by omega)) (ka z)
      have RD : (σ0 p i = 120 ∨ σ0 p i = 117) → f_X2_read_u38 (fun σ7 => ∀ _ : I32 (σ7 6 2), I32 ((σ7 6 2) + 1) ∧ ∀ σ10, σ10 = ml_up σ7 6 2 ((σ7 6 2) + 1) → f_X2_faultIn_u35 Q (f_X2_faultIn_u76 Q p) p N σ10 n h w) (mt_gs σ0 p n i d rep need 0) h := by
        intro hc
        rw [if_neg (by omega), if_neg (by omega), if_pos hc] at kk
        unfold f_X2_read_u38 f_X2_readDigit f_X2_readDigit_u0
        rw [e2]
        refine fun _ => ⟨mt_I (by omega) (by omega), fun σ3 g3 => ?_⟩
        rw [g3, mt_gs_2, e2]
        refine fun _ => s_next2 tx p6 n1 (by omega) (fun cc => s_dig2 (fun q => ?_) (fun q => ?_))
        · rw [if_neg (fun c => c q)] at kk
          refine fun _ => ⟨fun _ => ⟨mt_I (by omega) (by omega), mt_I (by omega) (by omega), fun c1 => ?_, fun c1 => ?_⟩, fun c => absurd c (by omega)⟩
          · rw [if_neg (by omega)] at kk
            unfold f_X2_readDigit_u50 f_X2_readDigit_u53 f_X2_read_u110
            refine TI (i + 1) d rep need 0 (by omega) (by omega) (by omega) (by omega) (fun c => absurd rfl c) (fun _ => ?_)
            have jn : i + 1 < n := by
              rcases Int.lt_or_le (i + 1) n with c | c
              · exact c
              · unfold mt_c at q; rw [if_neg (by omega)] at q; omega
            rw [show i + 1 + 1 = i + 2 by omega]
            exact AF N (i + 2) d (by omega) (by omega) d0 d6 (by omega) (by omega) kk
          · rw [if_pos (by omega)] at kk
            unfold f_X2_readDigit_u50 f_X2_readDigit_u53 f_X2_read_u110
            refine TI (i + 1) d rep need 3 (by omega) (by omega) (by omega) (by omega) (fun _ => ?_) (fun c => absurd c (by omega))
            rw [show (-1000 * 3 - (i + 1)) = -3000 - (i + 1) by omega]
            exact kk
        · rw [if_pos q] at kk
          refine fun _ => ⟨fun c => absurd rfl c, fun _ => ?_⟩
          unfold f_X2_readDigit_u53 f_X2_read_u110
          refine TI (i + 1) d rep need 1 (by omega) (by omega) (by omega) (by omega) (fun _ => ?_) (fun c => absurd c (by omega))
          rw [show (-1000 * 1 - (i + 1)) = -1000 - (i + 1) by omega]
          exact kk
      unfold f_X2_read f_X2_read_u0
      refine ⟨fun c40 => ⟨fun c41 => ⟨fun c120 => RD (Or.inl c120), fun c120 => ⟨fun c117 => ?_, fun c117 => RD (Or.inr c117)⟩⟩, fun c41 => ?_⟩, fun c40 => ?_⟩
      · rw [if_neg c40, if_neg c41, if_neg (by omega)] at kk
        refine ⟨fun c65 => ?_, fun c65 => ⟨fun c81 => ?_, fun c81 => ⟨mt_I (by omega) (by omega), fun cw => ?_, fun cw => ?_⟩⟩⟩
        · rw [if_neg (by omega)] at kk
          exact F78 ns kk
        · rw [if_neg (by omega)] at kk
          exact F78 ns kk
        · rw [if_pos ⟨by omega, by omega⟩, if_pos cw] at kk
          unfold f_X2_read_u72 f_X2_read_u110
          refine TI i d rep need 3 i0 (by omega) (by omega) (by omega) (fun _ => ?_) (fun c => absurd c (by omega))
          rw [show (-1000 * 3 - i) = -3000 - i by omega]
          exact kk
        · rw [if_pos ⟨by omega, by omega⟩, if_neg cw] at kk
          unfold f_X2_read_u72 f_X2_read_u110
          refine TI i d rep need 0 i0 (by omega) (by omega) (by omega) (fun c => absurd rfl c) (fun _ => ?_)
          exact AF N (i + 1) d (by omega) (by omega) d0 d6 (by omega) (by omega) kk
      · rw [if_neg (by omega), if_pos c41] at kk
        unfold f_X2_readClosing f_X2_readClosing_u0
        rw [e3, e5]
        have bad : (d = 0 ∨ need ≠ 0) → f_X2_readClosing_u20 (fun σ9 => f_X2_read_u110 (fun σ7 => ∀ _ : I32 (σ7 6 2), I32 ((σ7 6 2) + 1) ∧ ∀ σ10, σ10 = ml_up σ7 6 2 ((σ7 6 2) + 1) → f_X2_faultIn_u35 Q (f_X2_faultIn_u76 Q p) p N σ10 n h w) σ9) (mt_gs σ0 p n i d rep need 0) 1 := by
          intro c
          rw [if_pos c] at kk
          unfold f_X2_readClosing_u20
          refine s_takeItem ⟨i0, by omega⟩ ⟨by omega, by omega⟩ ?_
          rw [e3]
          refine fun _ => ⟨mt_I (by omega) (by omega), fun σ4 g4 => ?_⟩
          unfold f_X2_read_u110
          try dsimp only
          rw [g4, mt_gs_3, e2]
          refine fun _ => ⟨mt_I (by omega) (by omega), fun σ10 g10 => ?_⟩
          rw [g10, mt_gs_2, if_neg (by omega)]
          obtain ⟨N, rfl⟩ : ∃ N', N = N' + 1 := ⟨N - 1, by omega⟩
          rw [show (-1000 * 1 - i) = -1000 - i by omega]
          exact EX N _ _ _ _ _ (by omega) (mt_I (by omega) (by omega)) kk
        refine fun _ => ⟨fun c => ?_, fun c _ => ⟨fun c2 => ?_, fun c2 => ?_⟩⟩
        · unfold f_X2_readClosing_u15; exact bad (Or.inl c)
        · rw [if_neg (by omega)] at kk
          unfold f_X2_readClosing_u20
          refine s_takeItem ⟨i0, by omega⟩ ⟨by omega, by omega⟩ ?_
          rw [e3]
          refine fun _ => ⟨mt_I (by omega) (by omega), fun σ4 g4 => ?_⟩
          unfold f_X2_read_u110
          try dsimp only
          rw [g4, mt_gs_3, e2]
          refine fun _ => ⟨mt_I (by omega) (by omega), fun σ10 g10 => ?_⟩
          rw [g10, mt_gs_2, if_pos rfl]
          exact AF N (i + 1) (d - 1) (by omega) (by omega) (by omega) (by omega) (by omega) (by omega) kk
        · unfold f_X2_readClosing_u15; exact bad (Or.inr c2)
      · rw [if_pos c40] at kk
        unfold f_X2_readOpening f_X2_readOpening_u0
        rw [e3, e2]
        refine fun _ => ⟨fun c => ?_, fun c _ => ?_⟩
        · rw [if_neg c] at kk
          unfold f_X2_readOpening_u21
          rw [e3]
          refine fun _ => ⟨mt_I (by omega) (by omega), fun σ3 g3 σ4 g4 σ5 g5 => ?_⟩
          unfold f_X2_read_u110
          try dsimp only
          rw [g5, g4, g3, mt_gs_3, mt_gs_5, mt_gs_4, e2]
          refine fun _ => ⟨mt_I (by omega) (by omega), fun σ10 g10 => ?_⟩
          rw [g10, mt_gs_2]
          exact ih N (i + 1) (d + 1) 0 1 (by omega) (by omega) (by omega) (by omega) (Or.inl rfl) (Or.inr rfl) (Or.inl rfl) (by omega) (by omega) kk
        · rw [if_pos c] at kk
          refine s_faultAt ⟨by omega, by omega⟩ ⟨by omega, by omega⟩ (fun _ _ σ5 g5 => ?_)
          unfold f_X2_readOpening_u21
          rw [g5, mt_gs_6, e3]
          refine fun _ => ⟨mt_I (by omega) (by omega), fun σ3 g3 σ4 g4 σ5 g5 => ?_⟩
          unfold f_X2_read_u110
          try dsimp only
          rw [g5, g4, g3, mt_gs_3, mt_gs_5, mt_gs_4, e2]
          refine fun _ => ⟨mt_I (by omega) (by omega), fun σ10 g10 => ?_⟩
          rw [g10, mt_gs_2]
          obtain ⟨N, rfl⟩ : ∃ N', N = N' + 1 := ⟨N - 1, by omega⟩
          rw [show (-1000 * 4 - i) = -4000 - i by omega]
          exact EX N _ _ _ _ _ (by omega) (mt_I (by omega) (by omega)) kk
  unfold f_X2_faultIn f_X2_faultIn_u0
  intro σ1 g1 σ2 g2 σ3 g3 σ4 g4 σ5 g5 σ6 g6 σ7 g7
  have e7 : σ7 = mt_gs σ0 p n 0 0 0 1 0 := by
    rw [g7, g6, g5, g4, g3, g2, g1]
    funext a b
    unfold ml_up mt_gs
    by_cases q : a = 6
    · subst q
      by_cases r0 : b = 0
      · subst r0; simp
      by_cases r1 : b = 1
      · subst r1; simp
      by_cases r2 : b = 2
      · subst r2; simp
      by_cases r3 : b = 3
      · subst r3; simp
      by_cases r4 : b = 4
      · subst r4; simp
      by_cases r5 : b = 5
      · subst r5; simp
      by_cases r6 : b = 6
      · subst r6; simp
      simp [r0, r1, r2, r3, r4, r5, r6]
    · simp [q]
  rw [e7]
  exact ⟨n.toNat + 2, L (n.toNat + 1) (n.toNat + 2) 0 0 0 1 (by omega) n0 (by omega) (by omega) (Or.inl rfl) (Or.inr rfl) (Or.inl rfl) (by omega) (by omega) k⟩
