/-! TEXTS: the first fault (pure), and the class's Grammar -/
def mt_c (t : Int → Int) (n i : Int) : Int := if i < n then t i else 0
def mt_ds (t : Int → Int) (n : Int) : Nat → Int → Int
  | 0, _ => 0
  | F + 1, i => if 48 ≤ mt_c t n i ∧ mt_c t n i ≤ 57 then 1 + mt_ds t n F (i + 1) else 0
def mt_tf (t : Int → Int) (n i : Int) : Int := if i < n ∧ t i = 42 then (if mt_ds t n 9 (i + 1) = 0 then -1000 - (i + 1) else if 48 ≤ mt_c t n (i + 1 + mt_ds t n 9 (i + 1)) ∧ mt_c t n (i + 1 + mt_ds t n 9 (i + 1)) ≤ 57 then -2000 - (i + 1 + mt_ds t n 9 (i + 1)) else 0) else 0
def mt_tn (t : Int → Int) (n i : Int) : Int := if i < n ∧ t i = 42 then i + 1 + mt_ds t n 9 (i + 1) else i
def mt_gr (t : Int → Int) (n h w : Int) : Nat → Int → Int → Int → Int
  | 0, _, _, _ => 0
  | F + 1, i, d, need =>
    if n ≤ i then (if need = 0 ∧ d = 0 then 0 else -1000 - n)
    else if t i = 40 then (if d = 6 then -4000 - i else mt_gr t n h w F (i + 1) (d + 1) 1)
    else if t i = 41 then (if d = 0 ∨ need ≠ 0 then -1000 - i else if mt_tf t n (i + 1) ≠ 0 then mt_tf t n (i + 1) else mt_gr t n h w F (mt_tn t n (i + 1)) (d - 1) 0)
    else if t i = 120 ∨ t i = 117 then (if ¬ (48 ≤ mt_c t n (i + 1) ∧ mt_c t n (i + 1) ≤ 57) then -1000 - (i + 1) else if h - 2 < mt_c t n (i + 1) - 48 then -3000 - (i + 1) else if mt_tf t n (i + 2) ≠ 0 then mt_tf t n (i + 2) else mt_gr t n h w F (mt_tn t n (i + 2)) d 0)
    else if 65 ≤ t i ∧ t i < 81 then (if w ≤ t i - 65 then -3000 - i else if mt_tf t n (i + 1) ≠ 0 then mt_tf t n (i + 1) else mt_gr t n h w F (mt_tn t n (i + 1)) d 0)
    else -1000 - i
theorem mt_ds_r {t : Int → Int} {n : Int} : ∀ (F : Nat) (i : Int), 0 ≤ mt_ds t n F i ∧ mt_ds t n F i ≤ F ∧ (i ≤ n → i + mt_ds t n F i ≤ n) := by
  intro F
  induction F with
  | zero => intro i; unfold mt_ds; exact ⟨by omega, by omega, by omega⟩
  | succ F ih =>
    intro i
    obtain ⟨h1, h2, h3⟩ := ih (i + 1)
    unfold mt_ds
    by_cases q : 48 ≤ mt_c t n i ∧ mt_c t n i ≤ 57
    · rw [if_pos q]
      refine ⟨by omega, by omega, fun hi => ?_⟩
      have : i < n := by
        rcases Int.lt_or_le i n with c | c
        · exact c
        · unfold mt_c at q; rw [if_neg (by omega)] at q; omega
      have := h3 (by omega)
      omega
    · rw [if_neg q]; exact ⟨by omega, by omega, by omega⟩
/-- the class's Grammar, its fields at hand -/
def mt_gs (σ : ml_St) (p n i d rep need f : Int) : ml_St := fun a b => if a = 6 then (if b = 0 then p else if b = 1 then n else if b = 2 then i else if b = 3 then d else if b = 4 then rep else if b = 5 then need else if b = 6 then f else σ 6 b) else σ a b
theorem mt_gs_k {σ : ml_St} {p n i d rep need f a : Int} (h : a ≠ 6) : mt_gs σ p n i d rep need f a = σ a := by funext b; unfold mt_gs; rw [if_neg h]
theorem mt_gs_2 {σ : ml_St} {p n i d rep need f v : Int} : ml_up (mt_gs σ p n i d rep need f) 6 2 v = mt_gs σ p n v d rep need f := by
  funext a b; unfold ml_up mt_gs
  by_cases q : a = 6
  · subst q; by_cases r : b = 2
    · subst r; simp
    · simp [r]
  · simp [q]
theorem mt_gs_3 {σ : ml_St} {p n i d rep need f v : Int} : ml_up (mt_gs σ p n i d rep need f) 6 3 v = mt_gs σ p n i v rep need f := by
  funext a b; unfold ml_up mt_gs
  by_cases q : a = 6
  · subst q; by_cases r : b = 3
    · subst r; simp
    · simp [r]
  · simp [q]
theorem mt_gs_4 {σ : ml_St} {p n i d rep need f v : Int} : ml_up (mt_gs σ p n i d rep need f) 6 4 v = mt_gs σ p n i d v need f := by
  funext a b; unfold ml_up mt_gs
  by_cases q : a = 6
  · subst q; by_cases r : b = 4
    · subst r; simp
    · simp [r]
  · simp [q]
theorem mt_gs_5 {σ : ml_St} {p n i d rep need f v : Int} : ml_up (mt_gs σ p n i d rep need f) 6 5 v = mt_gs σ p n i d rep v f := by
  funext a b; unfold ml_up mt_gs
  by_cases q : a = 6
  · subst q; by_cases r : b = 5
    · subst r; simp
    · simp [r]
  · simp [q]
theorem mt_gs_6 {σ : ml_St} {p n i d rep need f v : Int} : ml_up (mt_gs σ p n i d rep need f) 6 6 v = mt_gs σ p n i d rep need v := by
  funext a b; unfold ml_up mt_gs
  by_cases q : a = 6
  · subst q; by_cases r : b = 6
    · subst r; simp
    · simp [r]
  · simp [q]
theorem mt_I {x : Int} (h0 : -20000 ≤ x) (h1 : x < 20000) : I32 x := ⟨by omega, by omega⟩
theorem mt_B0 : ml_B 0 := ⟨by omega, by omega⟩
theorem mt_B1 : ml_B 1 := ⟨by omega, by omega⟩
theorem s_dig2 {Q : Int → ml_St → Prop} {σ : ml_St} {x : Int} (k1 : 48 ≤ x ∧ x ≤ 57 → Q 1 σ) (k0 : ¬ (48 ≤ x ∧ x ≤ 57) → Q 0 σ) : f_X2_isDigit σ x Q := by
  unfold f_X2_isDigit f_X2_isDigit_u0
  refine ⟨fun c => ?_, fun c => ⟨fun d => ?_, fun d => ?_⟩⟩
  · unfold f_X2_isDigit_u16 f_X2_isDigit_u17; exact k0 (by omega)
  · unfold f_X2_isDigit_u16 f_X2_isDigit_u17; exact k0 (by omega)
  · unfold f_X2_isDigit_u17; exact k1 ⟨by omega, by omega⟩
theorem s_next2 {Q : Int → ml_St → Prop} {σ0 : ml_St} {p n i d rep need f x : Int} (tx : ml_tx p) (p6 : p ≠ 6) (n1 : n ≤ 100) (x0 : 0 ≤ x) (k : Q (mt_c (σ0 p) n x) (mt_gs σ0 p n i d rep need f)) : f_X2_next (mt_gs σ0 p n i d rep need f) x Q := by
  have e1 : mt_gs σ0 p n i d rep need f 6 1 = n := rfl
  have e0 : mt_gs σ0 p n i d rep need f 6 0 = p := rfl
  unfold f_X2_next f_X2_next_u0
  rw [e1, e0, mt_gs_k p6]
  unfold mt_c at k
  refine fun _ => ⟨fun c => ?_, fun c => ⟨tx, x0, by omega, fun _ => ?_⟩⟩
  · unfold f_X2_next_u18; rw [if_neg (by omega)] at k; exact k
  · unfold f_X2_next_u18; rw [if_pos (by omega)] at k; exact k
theorem s_faultAt {Q : Int → ml_St → Prop} {σ : ml_St} {k x : Int} (k0 : 0 ≤ k ∧ k ≤ 5) (x0 : 0 ≤ x ∧ x ≤ 300) (q : I32 (-1000 * k - x) → Q (-1000 * k - x) σ) : f_X2_faultAt σ k x Q := by
  unfold f_X2_faultAt f_X2_faultAt_u0
  have i1 : I32 (-1000 * k - x) := mt_I (by omega) (by omega)
  exact ⟨mt_I (by omega) (by omega), i1, q i1⟩
theorem s_takeItem {Q : ml_St → Prop} {σ0 : ml_St} {p n i d rep need x : Int} (i0 : 0 ≤ i ∧ i ≤ 300) (x0 : 0 ≤ x ∧ x ≤ 5) (k : Q (mt_gs σ0 p n i d 1 0 (if x = 0 then 0 else -1000 * x - i))) : f_X2_takeItem (mt_gs σ0 p n i d rep need 0) x Q := by
  unfold f_X2_takeItem f_X2_takeItem_u0
  refine ⟨fun c => ?_, fun c _ => ?_⟩
  · unfold f_X2_takeItem_u16
    intro σ1 e1 σ2 e2
    rw [e2, e1, mt_gs_5, mt_gs_4]
    rw [if_pos c] at k; exact k
  · refine s_faultAt x0 i0 (fun _ _ σ4 e4 => ?_)
    unfold f_X2_takeItem_u16
    intro σ1 e1 σ2 e2
    rw [e2, e1, e4, mt_gs_6, mt_gs_5, mt_gs_4]
    rw [if_neg c] at k; exact k
theorem s_readTimes2 {Q : ml_St → Prop} {σ0 : ml_St} {p n i d : Int} (tx : ml_tx p) (p6 : p ≠ 6) (n1 : n ≤ 100) (i0 : 0 ≤ i) (i1 : i < n) (h42 : σ0 p i = 42) (k : Q (mt_gs σ0 p n (i + mt_ds (σ0 p) n 9 (i + 1)) d 0 0 (mt_tf (σ0 p) n i))) : f_X2_readTimes (mt_gs σ0 p n i d 1 0 0) Q := by
  have L : ∀ (N F : Nat) (j x : Int), i ≤ j → j < n → x + F = 9 → 0 ≤ x → F < N → (f_X2_readTimes_u40 Q (mt_gs σ0 p n (j + mt_ds (σ0 p) n F (j + 1)) d 1 0 0) (x + mt_ds (σ0 p) n F (j + 1))) → f_X2_readTimes_u2 Q (f_X2_readTimes_u40 Q) N (mt_gs σ0 p n j d 1 0 0) x := by
    intro N
    induction N with
    | zero => intro F j x _ _ _ _ hN; omega
    | succ N ih =>
      intro F j x j0 j1 hx x0 hN k
      have e2 : mt_gs σ0 p n j d 1 0 0 6 2 = j := rfl
      unfold f_X2_readTimes_u2
      cases F with
      | zero =>
        unfold mt_ds at k
        rw [Int.add_zero, Int.add_zero] at k
        exact ⟨fun _ => k, fun c => absurd c (by omega)⟩
      | succ F =>
        refine ⟨fun c => absurd c (by omega), fun _ => ?_⟩
        rw [e2]
        refine fun _ => ⟨mt_I (by omega) (by omega), s_next2 tx p6 n1 (by omega) (fun _ => s_dig2 (fun q => ?_) (fun q => ?_))⟩
        · refine fun _ => ⟨fun c => absurd c (by omega), fun _ => ⟨mt_I (by omega) (by omega), fun y7 e7 => ?_⟩⟩
          rw [e2]
          refine fun _ => ⟨mt_I (by omega) (by omega), fun σ10 e10 => ?_⟩
          rw [e10, mt_gs_2, e7]
          have jn : j + 1 < n := by
            rcases Int.lt_or_le (j + 1) n with c | c
            · exact c
            · unfold mt_c at q; rw [if_neg (by omega)] at q; omega
          refine ih F (j + 1) (x + 1) (by omega) (by omega) (by omega) (by omega) (by omega) ?_
          unfold mt_ds at k
          rw [if_pos q] at k
          rw [show j + 1 + mt_ds (σ0 p) n F (j + 1 + 1) = j + (1 + mt_ds (σ0 p) n F (j + 1 + 1)) by omega, show x + 1 + mt_ds (σ0 p) n F (j + 1 + 1) = x + (1 + mt_ds (σ0 p) n F (j + 1 + 1)) by omega]
          exact k
        · refine fun _ => ⟨fun _ => ?_, fun c => absurd rfl c⟩
          unfold mt_ds at k
          rw [if_neg q, Int.add_zero, Int.add_zero] at k
          exact k
  obtain ⟨r1, r2, r3⟩ := mt_ds_r (t := σ0 p) (n := n) 9 (i + 1)
  have r3 := r3 (by omega)
  unfold f_X2_readTimes f_X2_readTimes_u0
  refine ⟨10, L 10 9 i 0 (by omega) (by omega) (by omega) (by omega) (by omega) ?_⟩
  unfold f_X2_readTimes_u40
  rw [Int.zero_add]
  have e2 : ∀ v, mt_gs σ0 p n v d 1 0 0 6 2 = v := fun _ => rfl
  rw [e2]
  have etf : mt_tf (σ0 p) n i = (if mt_ds (σ0 p) n 9 (i + 1) = 0 then -1000 - (i + 1) else if 48 ≤ mt_c (σ0 p) n (i + 1 + mt_ds (σ0 p) n 9 (i + 1)) ∧ mt_c (σ0 p) n (i + 1 + mt_ds (σ0 p) n 9 (i + 1)) ≤ 57 then -2000 - (i + 1 + mt_ds (σ0 p) n 9 (i + 1)) else 0) := by
    unfold mt_tf; rw [if_pos ⟨i1, h42⟩]
  refine ⟨fun c _ => ⟨mt_I (by omega) (by omega), s_next2 tx p6 n1 (by omega) (fun _ => s_dig2 (fun q => ?_) (fun q => ?_))⟩, fun c _ => ⟨mt_I (by omega) (by omega), s_faultAt ⟨by omega, by omega⟩ ⟨by omega, by omega⟩ (fun _ _ σ14 e14 => ?_)⟩⟩
  · refine fun _ => ⟨fun d => absurd d (by omega), fun _ => ?_⟩
    rw [e2]
    refine fun _ => ⟨mt_I (by omega) (by omega), s_faultAt ⟨by omega, by omega⟩ ⟨by omega, by omega⟩ (fun _ _ σ10 e10 => ?_)⟩
    unfold f_X2_readTimes_u91
    intro σ1 e1
    rw [e1, e10, mt_gs_6, mt_gs_4]
    rw [if_neg c, if_pos (by rw [show i + 1 + mt_ds (σ0 p) n 9 (i + 1) = i + mt_ds (σ0 p) n 9 (i + 1) + 1 by omega]; exact q)] at etf
    rw [etf] at k
    rw [show (-1000 * 2 - (i + mt_ds (σ0 p) n 9 (i + 1) + 1)) = -2000 - (i + 1 + mt_ds (σ0 p) n 9 (i + 1)) by omega]
    exact k
  · refine fun _ => ⟨fun _ => ?_, fun d => absurd rfl d⟩
    unfold f_X2_readTimes_u91
    intro σ1 e1
    rw [e1, mt_gs_4]
    rw [if_neg c, if_neg (by rw [show i + 1 + mt_ds (σ0 p) n 9 (i + 1) = i + mt_ds (σ0 p) n 9 (i + 1) + 1 by omega]; exact q)] at etf
    rw [etf] at k
    exact k
  · unfold f_X2_readTimes_u91
    intro σ1 e1
    rw [e1, e14, mt_gs_6, mt_gs_4]
    rw [if_pos c] at etf
    rw [etf] at k
    rw [show (-1000 * 1 - (i + mt_ds (σ0 p) n 9 (i + 1) + 1)) = -1000 - (i + 1) by omega]
    exact k
