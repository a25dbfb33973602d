/-! the model's isText -/
theorem mb_255 {x : Int} (h : ml_I8 x) : b_and x 255 = if x < 0 then x + 256 else x := by
  have key : ∀ n : Nat, n < 256 → b_and ((n : Int) - 128) 255 = if (n : Int) - 128 < 0 then (n : Int) - 128 + 256 else (n : Int) - 128 := by decide +kernel
  have := key (x + 128).toNat (by have := h.1; have := h.2; omega)
  rw [show (((x + 128).toNat : Nat) : Int) - 128 = x by have := h.1; omega] at this
  exact this
def mt_u (t : Int → Int) (n i : Int) : Int := if i < n then b_and (t i) 255 else 0
theorem mt_u_c {t : Int → Int} {n i : Int} (h : i < n → ml_I8 (t i)) : (0 ≤ mt_u t n i ∧ mt_u t n i ≤ 255) ∧ (mt_u t n i = mt_c t n i ∨ (128 ≤ mt_u t n i ∧ mt_c t n i < 0)) := by
  unfold mt_u mt_c
  by_cases q : i < n
  · rw [if_pos q, if_pos q, mb_255 (h q)]
    have := (h q).1
    have := (h q).2
    split <;> omega
  · rw [if_neg q, if_neg q]; omega
theorem mt_ds_next {t : Int → Int} {n : Int} : ∀ (F : Nat) (i : Int), mt_ds t n F i < F → ¬ (48 ≤ mt_c t n (i + mt_ds t n F i) ∧ mt_c t n (i + mt_ds t n F i) ≤ 57) := by
  intro F
  induction F with
  | zero => intro i h; have := (mt_ds_r (t := t) (n := n) 0 i).1; omega
  | succ F ih =>
    intro i h
    by_cases q : 48 ≤ mt_c t n i ∧ mt_c t n i ≤ 57
    · have e : mt_ds t n (F + 1) i = 1 + mt_ds t n F (i + 1) := by
        conv => lhs; unfold mt_ds
        rw [if_pos q]
      rw [e] at h ⊢
      rw [show i + (1 + mt_ds t n F (i + 1)) = i + 1 + mt_ds t n F (i + 1) by omega]
      exact ih (i + 1) (by omega)
    · have e : mt_ds t n (F + 1) i = 0 := by
        conv => lhs; unfold mt_ds
        rw [if_neg q]
      rw [e, Int.add_zero]; exact q
theorem mt_ds_s {t : Int → Int} {n i : Int} {F : Nat} : mt_ds t n (F + 1) i = if 48 ≤ mt_c t n i ∧ mt_c t n i ≤ 57 then 1 + mt_ds t n F (i + 1) else 0 := rfl
def mt_ms (σ : ml_St) (i n f d : Int) : ml_St := fun a b => if a = 215 then (if b = 9 then i else if b = 10 then n else if b = 11 then f else if b = 12 then d else σ 215 b) else σ a b
theorem mt_ms_k {σ : ml_St} {i n f d a : Int} (h : a ≠ 215) : mt_ms σ i n f d a = σ a := by funext b; unfold mt_ms; rw [if_neg h]
theorem mt_ms_9 {σ : ml_St} {i n f d v : Int} : ml_up (mt_ms σ i n f d) 215 9 v = mt_ms σ v n f d := by
  funext a b; unfold ml_up mt_ms
  by_cases q : a = 215
  · subst q; by_cases r : b = 9
    · subst r; simp
    · simp [r]
  · simp [q]
theorem mt_ms_11 {σ : ml_St} {i n f d v : Int} : ml_up (mt_ms σ i n f d) 215 11 v = mt_ms σ i n v d := by
  funext a b; unfold ml_up mt_ms
  by_cases q : a = 215
  · subst q; by_cases r : b = 11
    · subst r; simp
    · simp [r]
  · simp [q]
theorem mt_ms_12 {σ : ml_St} {i n f d v : Int} : ml_up (mt_ms σ i n f d) 215 12 v = mt_ms σ i n f v := by
  funext a b; unfold ml_up mt_ms
  by_cases q : a = 215
  · subst q; by_cases r : b = 12
    · subst r; simp
    · simp [r]
  · simp [q]
theorem s_here {Q : Int → ml_St → Prop} {σ : ml_St} {i n f d : Int} (i0 : 0 ≤ i) (n1 : n ≤ 100) (k : Q (mt_u (σ 216) n i) (mt_ms σ i n f d)) : f_X12_here (mt_ms σ i n f d) Q := by
  have e9 : mt_ms σ i n f d 215 9 = i := rfl
  have e10 : mt_ms σ i n f d 215 10 = n := rfl
  unfold f_X12_here f_X12_here_u0
  rw [e9, e10, mt_ms_k (by omega)]
  unfold mt_u at k
  refine fun _ _ => ⟨fun c => ?_, fun c _ => ⟨i0, by omega, fun _ => ?_⟩⟩
  · unfold f_X12_here_u28; rw [if_neg (by omega)] at k; exact k
  · unfold f_X12_here_u28; rw [if_pos (by omega)] at k; exact k
theorem s_dig12 {Q : Int → ml_St → Prop} {σ : ml_St} {x : Int} (k1 : 48 ≤ x ∧ x ≤ 57 → Q 1 σ) (k0 : ¬ (48 ≤ x ∧ x ≤ 57) → Q 0 σ) : f_X12_isDigit σ x Q := by
  unfold f_X12_isDigit f_X12_isDigit_u0
  refine ⟨fun c => ?_, fun c => ⟨fun d => ?_, fun d => ?_⟩⟩
  · unfold f_X12_isDigit_u16 f_X12_isDigit_u17; exact k0 (by omega)
  · unfold f_X12_isDigit_u16 f_X12_isDigit_u17; exact k0 (by omega)
  · unfold f_X12_isDigit_u17; exact k1 ⟨by omega, by omega⟩
theorem s_isGood {Q : Int → ml_St → Prop} {σ : ml_St} {i n f d : Int} (k1 : f = 0 → Q 1 (mt_ms σ i n f d)) (k0 : f ≠ 0 → Q 0 (mt_ms σ i n f d)) : f_X12_isGood (mt_ms σ i n f d) Q := by
  have e11 : mt_ms σ i n f d 215 11 = f := rfl
  unfold f_X12_isGood f_X12_isGood_u0
  rw [e11]
  unfold f_X12_isGood_u12
  exact fun _ => ⟨k0, k1⟩
theorem s_wrongs {Q : ml_St → Prop} {σ : ml_St} {i n d k x : Int} (k0 : 0 ≤ k ∧ k ≤ 5) (x0 : 0 ≤ x ∧ x ≤ 300) (q : Q (mt_ms σ i n (-1000 * k - x) d)) : f_X12_wrongs (mt_ms σ i n 0 d) k x Q := by
  have e11 : mt_ms σ i n 0 d 215 11 = 0 := rfl
  unfold f_X12_wrongs f_X12_wrongs_u0
  rw [e11]
  unfold f_X12_wrongs_u22
  refine fun _ => ⟨fun _ => ⟨mt_I (by omega) (by omega), mt_I (by omega) (by omega), fun σ1 e1 => ?_⟩, fun c => absurd c (by omega)⟩
  rw [e1, mt_ms_11]; exact q
theorem s_repeatsTold {Q : ml_St → Prop} {σ : ml_St} {i n d : Int} (i0 : 0 ≤ i) (i1 : i ≤ n) (n1 : n ≤ 100) (tI : ∀ i, 0 ≤ i → i < n → ml_I8 (σ 216 i)) (q : ∀ i', i ≤ i' → i' ≤ 200 → (mt_tf (σ 216) n i = 0 → i' = mt_tn (σ 216) n i) → Q (mt_ms σ i' n (mt_tf (σ 216) n i) d)) : f_X12_repeatsTold (mt_ms σ i n 0 d) Q := by
  have e9 : ∀ i f, mt_ms σ i n f d 215 9 = i := fun _ _ => rfl
  have uc := fun (j : Int) (hj : 0 ≤ j) => mt_u_c (t := σ 216) (n := n) (i := j) (fun c => tI j hj c)
  unfold f_X12_repeatsTold f_X12_repeatsTold_u0
  refine s_here i0 n1 (fun _ => ⟨fun c => ?_, fun c => ?_⟩)
  · have hu := uc i i0
    have hs : i < n ∧ σ 216 i = 42 := by
      have : mt_c (σ 216) n i = 42 := by omega
      unfold mt_c at this
      by_cases z : i < n
      · rw [if_pos z] at this; exact ⟨z, this⟩
      · rw [if_neg z] at this; omega
    rw [e9]
    refine fun _ => ⟨mt_I (by omega) (by omega), fun σ5 g5 => ?_⟩
    rw [g5, mt_ms_9, e9]
    intro _ y7 g7
    subst g7
    obtain ⟨r1, r2, r3⟩ := mt_ds_r (t := σ 216) (n := n) 9 (i + 1)
    have r3 := r3 (by omega)
    have etf : mt_tf (σ 216) n i = (if mt_ds (σ 216) n 9 (i + 1) = 0 then -1000 - (i + 1) else if 48 ≤ mt_c (σ 216) n (i + 1 + mt_ds (σ 216) n 9 (i + 1)) ∧ mt_c (σ 216) n (i + 1 + mt_ds (σ 216) n 9 (i + 1)) ≤ 57 then -2000 - (i + 1 + mt_ds (σ 216) n 9 (i + 1)) else 0) := by
      unfold mt_tf; rw [if_pos hs]
    have etn : mt_tn (σ 216) n i = i + 1 + mt_ds (σ 216) n 9 (i + 1) := by unfold mt_tn; rw [if_pos hs]
    refine s_here (by omega) n1 (fun _ => s_dig12 (fun z => ?_) (fun z => ?_))
    · refine fun _ => ⟨fun _ => ?_, fun c => absurd c (by omega)⟩
      have L : ∀ (N F : Nat) (j : Int), i + 1 ≤ j → j ≤ n → (j - (i + 1)) + F = 9 → F + 2 < N → mt_ds (σ 216) n 9 (i + 1) = (j - (i + 1)) + mt_ds (σ 216) n F j → f_X12_repeatsTold_u44 Q (f_X12_repeatsTold_u94 Q) N (mt_ms σ j n 0 d) (i + 1) := by
        intro N
        induction N with
        | zero => intro F j _ _ _ hN; omega
        | succ N ih =>
          intro F j j0 j1 jF hN hd
          unfold f_X12_repeatsTold_u44
          refine s_isGood (fun _ _ => ⟨fun c => absurd c (by omega), fun _ => ?_⟩) (fun c => absurd rfl c)
          have hu := uc j (by omega)
          refine s_here (by omega) n1 (fun _ => s_dig12 (fun y => ?_) (fun y => ?_))
          · have hc : 48 ≤ mt_c (σ 216) n j ∧ mt_c (σ 216) n j ≤ 57 := by omega
            have jn : j < n := by
              rcases Int.lt_or_le j n with c | c
              · exact c
              · unfold mt_c at hc; rw [if_neg (by omega)] at hc; omega
            refine fun _ => ⟨fun c => absurd c (by omega), fun _ => ?_⟩
            rw [e9]
            refine fun _ => ⟨mt_I (by omega) (by omega), fun c9 => ?_, fun c9 _ => ?_⟩
            · cases F with
              | zero => omega
              | succ F =>
                unfold f_X12_repeatsTold_u81
                rw [e9]
                refine fun _ => ⟨mt_I (by omega) (by omega), fun σ3 g3 => ?_⟩
                rw [g3, mt_ms_9]
                rw [mt_ds_s (F := F), if_pos hc] at hd
                exact ih F (j + 1) (by omega) (by omega) (by omega) (by omega) (by omega)
            · -- the tenth digit
              have hF : F = 0 := by omega
              subst hF
              have hd : mt_ds (σ 216) n 9 (i + 1) = j - (i + 1) := by rw [hd]; show j - (i + 1) + 0 = _; omega
              refine s_wrongs ⟨by omega, by omega⟩ ⟨by omega, by omega⟩ ?_
              unfold f_X12_repeatsTold_u81
              rw [e9]
              refine fun _ => ⟨mt_I (by omega) (by omega), fun σ3 g3 => ?_⟩
              rw [g3, mt_ms_9]
              obtain ⟨N, rfl⟩ : ∃ N', N = N' + 1 := ⟨N - 1, by omega⟩
              unfold f_X12_repeatsTold_u44
              refine s_isGood (fun c => absurd c (by omega)) (fun _ _ => ⟨fun _ => ?_, fun c => absurd rfl c⟩)
              unfold f_X12_repeatsTold_u94
              rw [hd, if_neg (by omega), show i + 1 + (j - (i + 1)) = j by omega, if_pos hc] at etf
              have g := q (j + 1) (by omega) (by omega) (fun c => absurd c (by omega))
              rw [etf] at g
              rw [show -1000 * 2 - j = -2000 - j by omega]
              exact g
          · refine fun _ => ⟨fun _ => ?_, fun c => absurd rfl c⟩
            have hc : ¬ (48 ≤ mt_c (σ 216) n j ∧ mt_c (σ 216) n j ≤ 57) := by omega
            have h0 : mt_ds (σ 216) n F j = 0 := by
              cases F with
              | zero => rfl
              | succ F => rw [mt_ds_s, if_neg hc]
            have hd : mt_ds (σ 216) n 9 (i + 1) = j - (i + 1) := by omega
            have hpos : mt_ds (σ 216) n 9 (i + 1) ≠ 0 := by
              have : 48 ≤ mt_c (σ 216) n (i + 1) ∧ mt_c (σ 216) n (i + 1) ≤ 57 := by have := uc (i + 1) (by omega); omega
              rw [mt_ds_s, if_pos this]
              have := (mt_ds_r (t := σ 216) (n := n) 8 (i + 1 + 1)).1
              omega
            unfold f_X12_repeatsTold_u94
            rw [if_neg hpos, hd, show i + 1 + (j - (i + 1)) = j by omega, if_neg hc] at etf
            have g := q j (by omega) (by omega) (fun _ => by rw [etn, hd]; omega)
            rw [etf] at g
            exact g
      exact ⟨20, L 20 9 (i + 1) (by omega) (by omega) (by omega) (by omega) (by omega)⟩
    · refine fun _ => ⟨fun c => absurd rfl c, fun _ => ?_⟩
      rw [e9]
      refine fun _ => s_wrongs ⟨by omega, by omega⟩ ⟨by omega, by omega⟩ ⟨1, ?_⟩
      unfold f_X12_repeatsTold_u44
      refine s_isGood (fun c => absurd c (by omega)) (fun _ _ => ⟨fun _ => ?_, fun c => absurd rfl c⟩)
      unfold f_X12_repeatsTold_u94
      have hc : ¬ (48 ≤ mt_c (σ 216) n (i + 1) ∧ mt_c (σ 216) n (i + 1) ≤ 57) := by have := uc (i + 1) (by omega); omega
      have h0 : mt_ds (σ 216) n 9 (i + 1) = 0 := by rw [mt_ds_s, if_neg hc]
      rw [if_pos h0] at etf
      have g := q (i + 1) (by omega) (by omega) (fun c => absurd c (by omega))
      rw [etf] at g
      rw [show -1000 * 1 - (i + 1) = -1000 - (i + 1) by omega]
      exact g
  · have hs : ¬ (i < n ∧ σ 216 i = 42) := fun z => by
      have hu := uc i i0
      have : mt_c (σ 216) n i = 42 := by unfold mt_c; rw [if_pos z.1]; exact z.2
      omega
    have e1 : mt_tf (σ 216) n i = 0 := by unfold mt_tf; rw [if_neg hs]
    have e2 : mt_tn (σ 216) n i = i := by unfold mt_tn; rw [if_neg hs]
    have g := q i (by omega) (by omega) (fun _ => e2.symm)
    rw [e1] at g
    exact g
