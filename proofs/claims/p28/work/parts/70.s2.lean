/-! TEXTS: the first fault (pure), and the class's Grammar -/
def mt_c (t : Int → Int) (n i : Int) : Int := if i < n then t i else 0
def mt_ds (t : Int → Int) (n : Int) : Nat → Int → Int
  | 0, _ => 0
  | F + 1, i => if 48 ≤ mt_c t n i ∧ mt_c t n i ≤ 57 then 1 + mt_ds t n F (i + 1) else 0
def mt_tf (t : Int → Int) (n i : Int) : Int := if i < n ∧ t i = 42 then (if mt_ds t n 9 (i + 1) = 0 then -1000 - (i + 1) else if 48 ≤ mt_c t n (i + 1 + mt_ds t n 9 (i + 1)) ∧ mt_c t n (i + 1 + mt_ds t n 9 (i + 1)) ≤ 57 then -2000 - (i + 1 + mt_ds t n 9 (i + 1)) else 0) else 0
def mt_tn (t : Int → Int) (n i : Int) : Int := if i < n ∧ t i = 42 then i + 1 + mt_ds t n 9 (i + 1) else i
def mt_gr (t : Int → Int) (n h w : Int) : Nat → Int → Int → Int → Int
  | 0, _, _, _ => 0
  | F + 1, i, d, need =>
    if n ≤ i then (if need = 0 ∧ d = 0 then 0 else -1000 - n)
    else if t i = 40 then (if d = 6 then -4000 - i else mt_gr t n h w F (i + 1) (d + 1) 1)
    else if t i = 41 then (if d = 0 ∨ need ≠ 0 then -1000 - i else if mt_tf t n (i + 1) ≠ 0 then mt_tf t n (i + 1) else mt_gr t n h w F (mt_tn t n (i + 1)) (d - 1) 0)
    else if t i = 120 ∨ t i = 117 then (if ¬ (48 ≤ mt_c t n (i + 1) ∧ mt_c t n (i + 1) ≤ 57) then -1000 - (i + 1) else if h - 2 < mt_c t n (i + 1) - 48 then -3000 - (i + 1) else if mt_tf t n (i + 2) ≠ 0 then mt_tf t n (i + 2) else mt_gr t n h w F (mt_tn t n (i + 2)) d 0)
    else if 65 ≤ t i ∧ t i < 81 then (if w ≤ t i - 65 then -3000 - i else if mt_tf t n (i + 1) ≠ 0 then mt_tf t n (i + 1) else mt_gr t n h w F (mt_tn t n (i + 1)) d 0)
    else -1000 - i
theorem mt_ds_r {t : Int → Int} {n : Int} : ∀ (F : Nat) (i : Int), 0 ≤ mt_ds t n F i ∧ mt_ds t n F i ≤ F ∧ (i ≤ n → i + mt_ds t n F i ≤ n) := by
  intro F
  induction F with
  | zero => intro i; unfold mt_ds; exact ⟨by omega, by omega, by omega⟩
  | succ F ih =>
    intro i
    obtain ⟨h1, h2, h3⟩ := ih (i + 1)
    unfold mt_ds
    by_cases q : 48 ≤ mt_c t n i ∧ mt_c t n i ≤ 57
    · rw [if_pos q]
      refine ⟨by omega, by omega, fun hi => ?_⟩
      have : i < n := by
        rcases Int.lt_or_le i n with c | c
        · exact c
        · unfold mt_c at q; rw [if_neg (by omega)] at q; omega
      have := h3 (by omega)
      omega
    · rw [if_neg q]; exact ⟨by omega, by omega, by omega⟩
/-- the class's Grammar, its fields at hand -/
def mt_gs (σ : ml_St) (p n i d rep need f : Int) : ml_St := fun a b => if a = 6 then (if b = 0 then p else if b = 1 then n else if b = 2 then i else if b = 3 then d else if b = 4 then rep else if b = 5 then need else if b = 6 then f else σ 6 b) else σ a b
theorem mt_gs_k {σ : ml_St} {p n i d rep need f a : Int} (h : a ≠ 6) : mt_gs σ p n i d rep need f a = σ a := by funext b; unfold mt_gs; rw [if_neg h]
theorem mt_gs_2 {σ : ml_St} {p n i d rep need f v : Int} : ml_up (mt_gs σ p n i d rep need f) 6 2 v = mt_gs σ p n v d rep need f := by
  funext a b; unfold ml_up mt_gs
  by_cases q : a = 6
  · subst q; by_cases r : b = 2
    · subst r; simp
    · simp [r]
  · simp [q]
theorem mt_gs_3 {σ : ml_St} {p n i d rep need f v : Int} : ml_up (mt_gs σ p n i d rep need f) 6 3 v = mt_gs σ p n i v rep need f := by
  funext a b; unfold ml_up mt_gs
  by_cases q : a = 6
  · subst q; by_cases r : b = 3
    · subst r; simp
    · simp [r]
  · simp [q]
theorem mt_gs_4 {σ : ml_St} {p n i d rep need f v : Int} : ml_up (mt_gs σ p n i d rep need f) 6 4 v = mt_gs σ p n i d v need f := by
  funext a b; unfold ml_up mt_gs
  by_cases q : a = 6
  · subst q; by_cases r : b = 4
    · subst r; simp
    · simp [r]
  · simp [q]
theorem mt_gs_5 {σ : ml_St} {p n i d rep need f v : Int} : ml_up (mt_gs σ p n i d rep need f) 6 5 v = mt_gs σ p n i d rep v f := by
  funext a b; unfold ml_up mt_gs
  by_cases q : a = 6
  · subst q; by_cases r : b = 5
    · subst r; simp
    · simp [r]
  · simp [q]
theorem mt_gs_6 {σ : ml_St} {p n i d rep need f v : Int} : ml_up (mt_gs σ p n i d rep need f) 6 6 v = mt_gs σ p n i d rep need v := by
  funext a b; unfold ml_up mt_gs
  by_cases q : a = 6
  · subst q; by_cases r : b = 6
    · subst r; simp
    · simp [r]
  · simp [q]
theorem mt_I {x : Int} (h0 : -20000 ≤ x) (h1 : x < 20000) : I32 x := ⟨by omega, by omega⟩
theorem mt_B0 : ml_B 0 := ⟨by omega, by omega⟩
theorem mt_B1 : ml_B 1 := ⟨by omega, by omega⟩
theorem s_dig2 {Q : Int → ml_St → Prop} {σ : ml_St} {x : Int} (k1 : 48 ≤ x ∧ x ≤ 57 → Q 1 σ) (k0 : ¬ (48 ≤ x ∧ x ≤ 57) → Q 0 σ) : f_X2_isDigit σ x Q := by
  unfold f_X2_isDigit f_X2_isDigit_u0
  refine ⟨fun c => ?_, fun c => ⟨fun d => ?_, fun d => ?_⟩⟩
  · unfold f_X2_isDigit_u16 f_X2_isDigit_u17; exact k0 (by omega)
  · unfold f_X2_isDigit_u16 f_X2_isDigit_u17; exact k0 (by omega)
  · unfold f_X2_isDigit_u17; exact k1 ⟨by omega, by omega⟩
theorem s_next2 {Q : Int → ml_St → Prop} {σ0 : ml_St} {p n i d rep need f x : Int} (tx : ml_tx p) (p6 : p ≠ 6) (n1 : n ≤ 100) (x0 : 0 ≤ x) (k : Q (mt_c (σ0 p) n x) (mt_gs σ0 p n i d rep need f)) : f_X2_next (mt_gs σ0 p n i d rep need f) x Q := by
  have e1 : mt_gs σ0 p n i d rep need f 6 1 = n := rfl
  have e0 : mt_gs σ0 p n i d rep need f 6 0 = p := rfl
  unfold f_X2_next f_X2_next_u0
  rw [e1, e0, mt_gs_k p6]
  unfold mt_c at k
  refine fun _ => ⟨fun c => ?_, fun c => ⟨tx, x0, by omega, fun _ => ?_⟩⟩
  · unfold f_X2_next_u18; rw [if_neg (by omega)] at k; exact k
  · unfold f_X2_next_u18; rw [if_pos (by omega)] at k; exact k
theorem s_faultAt {Q : Int → ml_St → Prop} {σ : ml_St} {k x : Int} (k0 : 0 ≤ k ∧ k ≤ 5) (x0 : 0 ≤ x ∧ x ≤ 300) (q : I32 (-1000 * k - x) → Q (-1000 * k - x) σ) : f_X2_faultAt σ k x Q := by
  unfold f_X2_faultAt f_X2_faultAt_u0
  have i1 : I32 (-1000 * k - x) := mt_I (by omega) (by omega)
  exact ⟨mt_I (by omega) (by omega), i1, q i1⟩
theorem s_takeItem {Q : ml_St → Prop} {σ0 : ml_St} {p n i d rep need x : Int} (i0 : 0 ≤ i ∧ i ≤ 300) (x0 : 0 ≤ x ∧ x ≤ 5) (k : Q (mt_gs σ0 p n i d 1 0 (if x = 0 then 0 else -1000 * x - i))) : f_X2_takeItem (mt_gs σ0 p n i d rep need 0) x Q := by
  unfold f_X2_takeItem f_X2_takeItem_u0
  refine ⟨fun c => ?_, fun c _ => ?_⟩
  · unfold f_X2_takeItem_u16
    intro σ1 e1 σ2 e2
    rw [e2, e1, mt_gs_5, mt_gs_4]
    rw [if_pos c] at k; exact k
  · refine s_faultAt x0 i0 (fun _ _ σ4 e4 => ?_)
    unfold f_X2_takeItem_u16
    intro σ1 e1 σ2 e2
    rw [e2, e1, e4, mt_gs_6, mt_gs_5, mt_gs_4]
    rw [if_neg c] at k; exact k
theorem s_readTimes2 {Q : ml_St → Prop} {σ0 : ml_St} {p n i d : Int} (tx : ml_tx p) (p6 : p ≠ 6) (n1 : n ≤ 100) (i0 : 0 ≤ i) (i1 : i < n) (h42 : σ0 p i = 42) (k : Q (mt_gs σ0 p n (i + mt_ds (σ0 p) n 9 (i + 1)) d 0 0 (mt_tf (σ0 p) n i))) : f_X2_readTimes (mt_gs σ0 p n i d 1 0 0) Q := by
  have L : ∀ (N F : Nat) (j x : Int), i ≤ j → j < n → x + F = 9 → 0 ≤ x → F < N → (f_X2_readTimes_u40 Q (mt_gs σ0 p n (j + mt_ds (σ0 p) n F (j + 1)) d 1 0 0) (x + mt_ds (σ0 p) n F (j + 1))) → f_X2_readTimes_u2 Q (f_X2_readTimes_u40 Q) N (mt_gs σ0 p n j d 1 0 0) x := by
    intro N
    induction N with
    | zero => intro F j x _ _ _ _ hN; omega
    | succ N ih =>
      intro F j x j0 j1 hx x0 hN k
      have e2 : mt_gs σ0 p n j d 1 0 0 6 2 = j := rfl
      unfold f_X2_readTimes_u2
      cases F with
      | zero =>
        unfold mt_ds at k
        rw [Int.add_zero, Int.add_zero] at k
        exact ⟨fun _ => k, fun c => absurd c (by omega)⟩
      | succ F =>
        refine ⟨fun c => absurd c (by omega), fun _ => ?_⟩
        rw [e2]
        refine fun _ => ⟨mt_I (by omega) (by omega), s_next2 tx p6 n1 (by omega) (fun _ => s_dig2 (fun q => ?_) (fun q => ?_))⟩
        · refine fun _ => ⟨fun c => absurd c (by omega), fun _ => ⟨mt_I (by omega) (by omega), fun y7 e7 => ?_⟩⟩
          rw [e2]
          refine fun _ => ⟨mt_I (by omega) (by omega), fun σ10 e10 => ?_⟩
          rw [e10, mt_gs_2, e7]
          have jn : j + 1 < n := by
            rcases Int.lt_or_le (j + 1) n with c | c
            · exact c
            · unfold mt_c at q; rw [if_neg (by omega)] at q; omega
          refine ih F (j + 1) (x + 1) (by omega) (by omega) (by omega) (by omega) (by omega) ?_
          unfold mt_ds at k
          rw [if_pos q] at k
          rw [show j + 1 + mt_ds (σ0 p) n F (j + 1 + 1) = j + (1 + mt_ds (σ0 p) n F (j + 1 + 1)) by omega, show x + 1 + mt_ds (σ0 p) n F (j + 1 + 1) = x + (1 + mt_ds (σ0 p) n F (j + 1 + 1)) by omega]
          exact k
        · refine fun _ => ⟨fun _ => ?_, fun c => absurd rfl c⟩
          unfold mt_ds at k
          rw [if_neg q, Int.add_zero, Int.add_zero] at k
          exact k
  obtain ⟨r1, r2, r3⟩ := mt_ds_r (t := σ0 p) (n := n) 9 (i + 1)
  have r3 := r3 (by omega)
  unfold f_X2_readTimes f_X2_readTimes_u0
  refine ⟨10, L 10 9 i 0 (by omega) (by omega) (by omega) (by omega) (by omega) ?_⟩
  unfold f_X2_readTimes_u40
  rw [Int.zero_add]
  have e2 : ∀ v, mt_gs σ0 p n v d 1 0 0 6 2 = v := fun _ => rfl
  rw [e2]
  have etf : mt_tf (σ0 p) n i = (if mt_ds (σ0 p) n 9 (i + 1) = 0 then -1000 - (i + 1) else if 48 ≤ mt_c (σ0 p) n (i + 1 + mt_ds (σ0 p) n 9 (i + 1)) ∧ mt_c (σ0 p) n (i + 1 + mt_ds (σ0 p) n 9 (i + 1)) ≤ 57 then -2000 - (i + 1 + mt_ds (σ0 p) n 9 (i + 1)) else 0) := by
    unfold mt_tf; rw [if_pos ⟨i1, h42⟩]
  refine ⟨fun c _ => ⟨mt_I (by omega) (by omega), s_next2 tx p6 n1 (by omega) (fun _ => s_dig2 (fun q => ?_) (fun q => ?_))⟩, fun c _ => ⟨mt_I (by omega) (by omega), s_faultAt ⟨by omega, by omega⟩ ⟨by omega, by omega⟩ (fun _ _ σ14 e14 => ?_)⟩⟩
  · refine fun _ => ⟨fun d => absurd d (by omega), fun _ => ?_⟩
    rw [e2]
    refine fun _ => ⟨mt_I (by omega) (by omega), s_faultAt ⟨by omega, by omega⟩ ⟨by omega, by omega⟩ (fun _ _ σ10 e10 => ?_)⟩
    unfold f_X2_readTimes_u91
    intro σ1 e1
    rw [e1, e10, mt_gs_6, mt_gs_4]
    rw [if_neg c, if_pos (by rw [show i + 1 + mt_ds (σ0 p) n 9 (i + 1) = i + mt_ds (σ0 p) n 9 (i + 1) + 1 by omega]; exact q)] at etf
    rw [etf] at k
    rw [show (-1000 * 2 - (i + mt_ds (σ0 p) n 9 (i + 1) + 1)) = -2000 - (i + 1 + mt_ds (σ0 p) n 9 (i + 1)) by omega]
    exact k
  · refine fun _ => ⟨fun _ => ?_, fun d => absurd rfl d⟩
    unfold f_X2_readTimes_u91
    intro σ1 e1
    rw [e1, mt_gs_4]
    rw [if_neg c, if_neg (by rw [show i + 1 + mt_ds (σ0 p) n 9 (i + 1) = i + mt_ds (σ0 p) n 9 (i + 1) + 1 by omega]; exact q)] at etf
    rw [etf] at k
    exact k
  · unfold f_X2_readTimes_u91
    intro σ1 e1
    rw [e1, e14, mt_gs_6, mt_gs_4]
    rw [if_pos c] at etf
    rw [etf] at k
    rw [show (-1000 * 1 - (i + mt_ds (σ0 p) n 9 (i + 1) + 1)) = -1000 - (i + 1) by omega]
    exact k
theorem mt_tn_r {t : Int → Int} {n i : Int} (h : i ≤ n) : i ≤ mt_tn t n i ∧ mt_tn t n i ≤ n := by
  obtain ⟨r1, r2, r3⟩ := mt_ds_r (t := t) (n := n) 9 (i + 1)
  unfold mt_tn
  split
  · have := r3 (by omega); omega
  · omega
theorem mt_tf_le {t : Int → Int} {n i : Int} (h0 : 0 ≤ i) : mt_tf t n i ≤ 0 := by
  obtain ⟨r1, r2, r3⟩ := mt_ds_r (t := t) (n := n) 9 (i + 1)
  unfold mt_tf
  (repeat' split) <;> omega
theorem mt_gr_le {t : Int → Int} {n h w : Int} : ∀ (F : Nat) (i d need : Int), 0 ≤ n → 0 ≤ i → mt_gr t n h w F i d need ≤ 0 := by
  intro F
  induction F with
  | zero => intro i d need _ _; exact Int.le_refl 0
  | succ F ih =>
    intro i d need n0 i0
    have z1 := mt_tf_le (t := t) (n := n) (i := i + 1) (by omega)
    have z2 := mt_tf_le (t := t) (n := n) (i := i + 2) (by omega)
    unfold mt_gr
    by_cases c0 : n ≤ i
    · rw [if_pos c0]; split <;> omega
    have tn : ∀ j, 0 ≤ j → 0 ≤ mt_tn t n j := fun j hj => by
      have := (mt_ds_r (t := t) (n := n) 9 (j + 1)).1
      unfold mt_tn; split <;> omega
    have t1 := tn (i + 1) (by omega)
    have t2 := tn (i + 2) (by omega)
    have g1 := ih (i + 1) (d + 1) 1 n0 (by omega)
    have g2 := ih (mt_tn t n (i + 1)) (d - 1) 0 n0 t1
    have g3 := ih (mt_tn t n (i + 2)) d 0 n0 t2
    have g4 := ih (mt_tn t n (i + 1)) d 0 n0 t1
    rw [if_neg c0]
    (repeat' split) <;> omega
theorem s_faultIn {Q : Int → ml_St → Prop} {σ0 : ml_St} {p n h w : Int} (tx : ml_tx p) (p6 : p ≠ 6) (n0 : 0 ≤ n) (n1 : n ≤ 100) (h2 : 2 ≤ h) (h5 : h ≤ 5) (w0 : 0 ≤ w) (w1 : w ≤ 16) (tI : ∀ i, 0 ≤ i → i < n → ml_I8 (σ0 p i)) (k : ∀ σ', (∀ j, j ≠ 6 → σ' j = σ0 j) → Q (mt_gr (σ0 p) n h w (n.toNat + 1) 0 0 1) σ') : f_X2_faultIn σ0 p n h w Q := by
  have fr : ∀ i d rep need f j, j ≠ 6 → mt_gs σ0 p n i d rep need f j = σ0 j := fun i d rep need f j hj => mt_gs_k hj
  -- the end of the loop
  have E0 : ∀ i d rep need f, f ≠ 0 → I32 f → (∀ σ', (∀ j, j ≠ 6 → σ' j = σ0 j) → Q f σ') → f_X2_faultIn_u76 Q p (mt_gs σ0 p n i d rep need f) n := by
    intro i d rep need f hf _ kk
    have e6 : mt_gs σ0 p n i d rep need f 6 6 = f := rfl
    unfold f_X2_faultIn_u76
    rw [e6]
    refine fun _ => ⟨fun _ => ?_, fun c => absurd c hf⟩
    unfold f_X2_faultIn_u106
    rw [e6]
    exact fun _ => kk _ (fun j hj => fr _ _ _ _ _ j hj)
  have EX : ∀ (N : Nat) i d rep need f, f ≠ 0 → I32 f → (∀ σ', (∀ j, j ≠ 6 → σ' j = σ0 j) → Q f σ') → f_X2_faultIn_u35 Q (f_X2_faultIn_u76 Q p) p (N + 1) (mt_gs σ0 p n i d rep need f) n h w := by
    intro N i d rep need f hf hI kk
    have e6 : mt_gs σ0 p n i d rep need f 6 6 = f := rfl
    unfold f_X2_faultIn_u35
    rw [e6]
    exact fun _ => ⟨fun _ => E0 i d rep need f hf hI kk, fun _ _ => ⟨fun _ => E0 i d rep need f hf hI kk, fun c => absurd c hf⟩⟩
  have EN : ∀ i d rep need, (need = 0 ∨ need = 1) → 0 ≤ d → (∀ σ', (∀ j, j ≠ 6 → σ' j = σ0 j) → Q (if need = 0 ∧ d = 0 then 0 else -1000 - n) σ') → f_X2_faultIn_u76 Q p (mt_gs σ0 p n i d rep need 0) n := by
    intro i d rep need hn hd kk
    have e6 : mt_gs σ0 p n i d rep need 0 6 6 = 0 := rfl
    have e5 : mt_gs σ0 p n i d rep need 0 6 5 = need := rfl
    have e3 : mt_gs σ0 p n i d rep need 0 6 3 = d := rfl
    have flt : ¬ (need = 0 ∧ d = 0) → f_X2_faultIn_u97 Q p (mt_gs σ0 p n i d rep need 0) n := by
      intro c
      unfold f_X2_faultIn_u97
      refine s_faultAt ⟨by omega, by omega⟩ ⟨by omega, by omega⟩ (fun _ _ σ2 e2 => ?_)
      unfold f_X2_faultIn_u106
      rw [e2, mt_gs_6]
      rw [if_neg c] at kk
      rw [show (-1000 * 1 - n) = -1000 - n by omega]
      exact fun _ => kk _ (fun j hj => fr _ _ _ _ _ j hj)
    unfold f_X2_faultIn_u76
    rw [e6, e5, e3]
    refine fun _ => ⟨fun c => absurd rfl c, fun _ _ => ⟨fun c => flt (fun q => c q.1), fun c _ => ⟨fun d0 => ?_, fun d0 => flt (fun q => d0 (by omega))⟩⟩⟩
    unfold f_X2_faultIn_u106
    rw [e6]
    rw [if_pos ⟨c, by omega⟩] at kk
    exact fun _ => kk _ (fun j hj => fr _ _ _ _ _ j hj)
  have L : ∀ (F N : Nat) (i d rep need : Int), 0 ≤ i → i ≤ n → 0 ≤ d → d ≤ 6 → (rep = 0 ∨ rep = 1) → (need = 0 ∨ need = 1) → (rep = 0 ∨ ¬ (i < n ∧ σ0 p i = 42)) → n - i < F → n - i + 1 < N →
      (∀ σ', (∀ j, j ≠ 6 → σ' j = σ0 j) → Q (mt_gr (σ0 p) n h w F i d need) σ') → f_X2_faultIn_u35 Q (f_X2_faultIn_u76 Q p) p N (mt_gs σ0 p n i d rep need 0) n h w := by
    intro F
    induction F with
    | zero => intro N i d rep need i0 i1 d0 d6 hr hn hs hF; omega
    | succ F ih =>
      -- behind an item
      have AF : ∀ (N : Nat) (i d : Int), 0 ≤ i → i ≤ n → 0 ≤ d → d ≤ 6 → n - i < F → n - i + 1 < N → (∀ σ', (∀ j, j ≠ 6 → σ' j = σ0 j) → Q (if mt_tf (σ0 p) n i ≠ 0 then mt_tf (σ0 p) n i else mt_gr (σ0 p) n h w F (mt_tn (σ0 p) n i) d 0) σ') → f_X2_faultIn_u35 Q (f_X2_faultIn_u76 Q p) p N (mt_gs σ0 p n i d 1 0 0) n h w := by
        intro N i d i0 i1 d0 d6 hF hN kk
        by_cases q : i < n ∧ σ0 p i = 42
        · obtain ⟨N, rfl⟩ : ∃ N', N = N' + 1 := ⟨N - 1, by omega⟩
          have e6 : mt_gs σ0 p n i d 1 0 0 6 6 = 0 := rfl
          have e2 : mt_gs σ0 p n i d 1 0 0 6 2 = i := rfl
          have e4 : mt_gs σ0 p n i d 1 0 0 6 4 = 1 := rfl
          unfold f_X2_faultIn_u35
          rw [e6, e2, mt_gs_k p6, q.2]
          refine fun _ => ⟨fun c => absurd c (by omega), fun _ _ => ⟨fun c => absurd rfl c, fun _ _ => ⟨i0, by omega, fun _ => ?_⟩⟩⟩
          unfold f_X2_read f_X2_read_u0
          refine ⟨fun _ => ⟨fun _ => ⟨fun c => absurd c (by omega), fun _ => ⟨fun _ => ⟨fun _ => ?_, fun c => absurd c (by omega)⟩, fun c => absurd c (by omega)⟩⟩, fun c => absurd c (by omega)⟩, fun c => absurd c (by omega)⟩
          unfold f_X2_read_u78
          rw [e4]
          refine ⟨fun c => absurd rfl c, fun _ _ => ⟨fun c => absurd c (by omega), fun _ => s_readTimes2 tx p6 n1 i0 q.1 q.2 ?_⟩⟩
          unfold f_X2_read_u110
          try dsimp only
          obtain ⟨r1, r2, r3⟩ := mt_ds_r (t := σ0 p) (n := n) 9 (i + 1)
          have r3 := r3 (by omega)
          have e22 : ∀ v f, mt_gs σ0 p n v d 0 0 f 6 2 = v := fun _ _ => rfl
          rw [e22]
          refine fun _ => ⟨mt_I (by omega) (by omega), fun σ10 e10 => ?_⟩
          rw [e10, mt_gs_2]
          have etn : mt_tn (σ0 p) n i = i + mt_ds (σ0 p) n 9 (i + 1) + 1 := by unfold mt_tn; rw [if_pos q]; omega
          by_cases z : mt_tf (σ0 p) n i = 0
          · rw [z]
            rw [if_neg (fun c => c z)] at kk
            rw [← etn]
            exact ih N _ d 0 0 (by omega) (by omega) d0 d6 (Or.inl rfl) (Or.inl rfl) (Or.inl rfl) (by omega) (by omega) kk
          · rw [if_pos z] at kk
            obtain ⟨N, rfl⟩ : ∃ N', N = N' + 1 := ⟨N - 1, by omega⟩
            refine EX N _ _ _ _ _ z ?_ kk
            have := mt_tf_le (t := σ0 p) (n := n) (i := i) i0
            unfold mt_tf
            (repeat' split) <;> first | exact mt_I (by omega) (by omega)
        · have e1 : mt_tf (σ0 p) n i = 0 := by unfold mt_tf; rw [if_neg q]
          have e2 : mt_tn (σ0 p) n i = i := by unfold mt_tn; rw [if_neg q]
          rw [e1, e2] at kk
          rw [if_neg (fun c => c rfl)] at kk
          exact ih N i d 1 0 i0 i1 d0 d6 (Or.inr rfl) (Or.inl rfl) (Or.inr q) hF hN kk
      intro N i d rep need i0 i1 d0 d6 hr hn hs hF hN kk
      obtain ⟨N, rfl⟩ : ∃ N', N = N' + 1 := ⟨N - 1, by omega⟩
      have e6 : ∀ i d rep need f, mt_gs σ0 p n i d rep need f 6 6 = f := fun _ _ _ _ _ => rfl
      have e2 : ∀ i d rep need f, mt_gs σ0 p n i d rep need f 6 2 = i := fun _ _ _ _ _ => rfl
      have e3 : ∀ i d rep need f, mt_gs σ0 p n i d rep need f 6 3 = d := fun _ _ _ _ _ => rfl
      have e4 : ∀ i d rep need f, mt_gs σ0 p n i d rep need f 6 4 = rep := fun _ _ _ _ _ => rfl
      have e5 : ∀ i d rep need f, mt_gs σ0 p n i d rep need f 6 5 = need := fun _ _ _ _ _ => rfl
      unfold f_X2_faultIn_u35
      rw [e6, e2, mt_gs_k p6]
      unfold mt_gr at kk
      refine fun _ => ⟨fun c => ?_, fun c _ => ⟨fun c => absurd rfl c, fun _ _ => ⟨i0, by omega, fun _ => ?_⟩⟩⟩
      · rw [if_pos c] at kk
        exact EN i d rep need hn d0 kk
      rw [if_neg c] at kk
      have cI := tI i i0 (by omega)
      -- a fault at i, kind 1
      have F1 : (∀ σ', (∀ j, j ≠ 6 → σ' j = σ0 j) → Q (-1000 - i) σ') → f_X2_read_u98 (fun σ7 => ∀ _ : I32 (σ7 6 2), I32 ((σ7 6 2) + 1) ∧ ∀ σ10, σ10 = ml_up σ7 6 2 ((σ7 6 2) + 1) → f_X2_faultIn_u35 Q (f_X2_faultIn_u76 Q p) p N σ10 n h w) (mt_gs σ0 p n i d rep need 0) := by
        intro kk
        unfold f_X2_read_u98
        rw [e2]
        refine fun _ => s_faultAt ⟨by omega, by omega⟩ ⟨by omega, by omega⟩ (fun _ _ σ3 g3 => ?_)
        unfold f_X2_read_u110
        try dsimp only
        rw [g3, mt_gs_6, e2]
        refine fun _ => ⟨mt_I (by omega) (by omega), fun σ10 g10 => ?_⟩
        rw [g10, mt_gs_2]
        obtain ⟨N, rfl⟩ : ∃ N', N = N' + 1 := ⟨N - 1, by omega⟩
        rw [show (-1000 * 1 - i) = -1000 - i by omega]
        exact EX N _ _ _ _ _ (by omega) (mt_I (by omega) (by omega)) kk
      have F78 : (¬ (σ0 p i = 42 ∧ rep ≠ 0)) → (∀ σ', (∀ j, j ≠ 6 → σ' j = σ0 j) → Q (-1000 - i) σ') → f_X2_read_u78 (fun σ7 => ∀ _ : I32 (σ7 6 2), I32 ((σ7 6 2) + 1) ∧ ∀ σ10, σ10 = ml_up σ7 6 2 ((σ7 6 2) + 1) → f_X2_faultIn_u35 Q (f_X2_faultIn_u76 Q p) p N σ10 n h w) (mt_gs σ0 p n i d rep need 0) (σ0 p i) := by
        intro ns kk
        unfold f_X2_read_u78
        rw [e4]
        exact ⟨fun _ => F1 kk, fun c1 _ => ⟨fun _ => F1 kk, fun c2 => absurd ⟨c1, c2⟩ ns⟩⟩
      have ns : ¬ (σ0 p i = 42 ∧ rep ≠ 0) := fun q => by
        rcases hs with hs | hs
        · exact q.2 hs
        · exact hs ⟨by omega, q.1⟩
      have TI : ∀ (j d rep need x : Int), 0 ≤ j → j < n + 1 → 0 ≤ x → x ≤ 5 → (x ≠ 0 → ∀ σ', (∀ j, j ≠ 6 → σ' j = σ0 j) → Q (-1000 * x - j) σ') → (x = 0 → f_X2_faultIn_u35 Q (f_X2_faultIn_u76 Q p) p N (mt_gs σ0 p n (j + 1) d 1 0 0) n h w) → f_X2_takeItem (mt_gs σ0 p n j d rep need 0) x (fun σ7 => ∀ _ : I32 (σ7 6 2), I32 ((σ7 6 2) + 1) ∧ ∀ σ10, σ10 = ml_up σ7 6 2 ((σ7 6 2) + 1) → f_X2_faultIn_u35 Q (f_X2_faultIn_u76 Q p) p N σ10 n h w) := by
        intro j d rep need x j0 j1 x0 x5 ka kb
        refine s_takeItem ⟨j0, by omega⟩ ⟨x0, x5⟩ ?_
        try dsimp only
        rw [e2]
        refine fun _ => ⟨mt_I (by omega) (by omega), fun σ10 g10 => ?_⟩
        rw [g10, mt_gs_2]
        by_cases z : x = 0
        · rw [if_pos z]; exact kb z
        · rw [if_neg z]
          obtain ⟨N, rfl⟩ : ∃ N', N = N' + 1 := ⟨N - 1, by omega⟩
          exact EX N _ _ _ _ _ (by omega) (mt_I (by omega) (by omega)) (ka z)
      have RD : (σ0 p i = 120 ∨ σ0 p i = 117) → f_X2_read_u38 (fun σ7 => ∀ _ : I32 (σ7 6 2), I32 ((σ7 6 2) + 1) ∧ ∀ σ10, σ10 = ml_up σ7 6 2 ((σ7 6 2) + 1) → f_X2_faultIn_u35 Q (f_X2_faultIn_u76 Q p) p N σ10 n h w) (mt_gs σ0 p n i d rep need 0) h := by
        intro hc
        rw [if_neg (by omega), if_neg (by omega), if_pos hc] at kk
        unfold f_X2_read_u38 f_X2_readDigit f_X2_readDigit_u0
        rw [e2]
        refine fun _ => ⟨mt_I (by omega) (by omega), fun σ3 g3 => ?_⟩
        rw [g3, mt_gs_2, e2]
        refine fun _ => s_next2 tx p6 n1 (by omega) (fun cc => s_dig2 (fun q => ?_) (fun q => ?_))
        · rw [if_neg (fun c => c q)] at kk
          refine fun _ => ⟨fun _ => ⟨mt_I (by omega) (by omega), mt_I (by omega) (by omega), fun c1 => ?_, fun c1 => ?_⟩, fun c => absurd c (by omega)⟩
          · rw [if_neg (by omega)] at kk
            unfold f_X2_readDigit_u50 f_X2_readDigit_u53 f_X2_read_u110
            refine TI (i + 1) d rep need 0 (by omega) (by omega) (by omega) (by omega) (fun c => absurd rfl c) (fun _ => ?_)
            have jn : i + 1 < n := by
              rcases Int.lt_or_le (i + 1) n with c | c
              · exact c
              · unfold mt_c at q; rw [if_neg (by omega)] at q; omega
            rw [show i + 1 + 1 = i + 2 by omega]
            exact AF N (i + 2) d (by omega) (by omega) d0 d6 (by omega) (by omega) kk
          · rw [if_pos (by omega)] at kk
            unfold f_X2_readDigit_u50 f_X2_readDigit_u53 f_X2_read_u110
            refine TI (i + 1) d rep need 3 (by omega) (by omega) (by omega) (by omega) (fun _ => ?_) (fun c => absurd c (by omega))
            rw [show (-1000 * 3 - (i + 1)) = -3000 - (i + 1) by omega]
            exact kk
        · rw [if_pos q] at kk
          refine fun _ => ⟨fun c => absurd rfl c, fun _ => ?_⟩
          unfold f_X2_readDigit_u53 f_X2_read_u110
          refine TI (i + 1) d rep need 1 (by omega) (by omega) (by omega) (by omega) (fun _ => ?_) (fun c => absurd c (by omega))
          rw [show (-1000 * 1 - (i + 1)) = -1000 - (i + 1) by omega]
          exact kk
      unfold f_X2_read f_X2_read_u0
      refine ⟨fun c40 => ⟨fun c41 => ⟨fun c120 => RD (Or.inl c120), fun c120 => ⟨fun c117 => ?_, fun c117 => RD (Or.inr c117)⟩⟩, fun c41 => ?_⟩, fun c40 => ?_⟩
      · rw [if_neg c40, if_neg c41, if_neg (by omega)] at kk
        refine ⟨fun c65 => ?_, fun c65 => ⟨fun c81 => ?_, fun c81 => ⟨mt_I (by omega) (by omega), fun cw => ?_, fun cw => ?_⟩⟩⟩
        · rw [if_neg (by omega)] at kk
          exact F78 ns kk
        · rw [if_neg (by omega)] at kk
          exact F78 ns kk
        · rw [if_pos ⟨by omega, by omega⟩, if_pos cw] at kk
          unfold f_X2_read_u72 f_X2_read_u110
          refine TI i d rep need 3 i0 (by omega) (by omega) (by omega) (fun _ => ?_) (fun c => absurd c (by omega))
          rw [show (-1000 * 3 - i) = -3000 - i by omega]
          exact kk
        · rw [if_pos ⟨by omega, by omega⟩, if_neg cw] at kk
          unfold f_X2_read_u72 f_X2_read_u110
          refine TI i d rep need 0 i0 (by omega) (by omega) (by omega) (fun c => absurd rfl c) (fun _ => ?_)
          exact AF N (i + 1) d (by omega) (by omega) d0 d6 (by omega) (by omega) kk
      · rw [if_neg (by omega), if_pos c41] at kk
        unfold f_X2_readClosing f_X2_readClosing_u0
        rw [e3, e5]
        have bad : (d = 0 ∨ need ≠ 0) → f_X2_readClosing_u20 (fun σ9 => f_X2_read_u110 (fun σ7 => ∀ _ : I32 (σ7 6 2), I32 ((σ7 6 2) + 1) ∧ ∀ σ10, σ10 = ml_up σ7 6 2 ((σ7 6 2) + 1) → f_X2_faultIn_u35 Q (f_X2_faultIn_u76 Q p) p N σ10 n h w) σ9) (mt_gs σ0 p n i d rep need 0) 1 := by
          intro c
          rw [if_pos c] at kk
          unfold f_X2_readClosing_u20
          refine s_takeItem ⟨i0, by omega⟩ ⟨by omega, by omega⟩ ?_
          rw [e3]
          refine fun _ => ⟨mt_I (by omega) (by omega), fun σ4 g4 => ?_⟩
          unfold f_X2_read_u110
          try dsimp only
          rw [g4, mt_gs_3, e2]
          refine fun _ => ⟨mt_I (by omega) (by omega), fun σ10 g10 => ?_⟩
          rw [g10, mt_gs_2, if_neg (by omega)]
          obtain ⟨N, rfl⟩ : ∃ N', N = N' + 1 := ⟨N - 1, by omega⟩
          rw [show (-1000 * 1 - i) = -1000 - i by omega]
          exact EX N _ _ _ _ _ (by omega) (mt_I (by omega) (by omega)) kk
        refine fun _ => ⟨fun c => ?_, fun c _ => ⟨fun c2 => ?_, fun c2 => ?_⟩⟩
        · unfold f_X2_readClosing_u15; exact bad (Or.inl c)
        · rw [if_neg (by omega)] at kk
          unfold f_X2_readClosing_u20
          refine s_takeItem ⟨i0, by omega⟩ ⟨by omega, by omega⟩ ?_
          rw [e3]
          refine fun _ => ⟨mt_I (by omega) (by omega), fun σ4 g4 => ?_⟩
          unfold f_X2_read_u110
          try dsimp only
          rw [g4, mt_gs_3, e2]
          refine fun _ => ⟨mt_I (by omega) (by omega), fun σ10 g10 => ?_⟩
          rw [g10, mt_gs_2, if_pos rfl]
          exact AF N (i + 1) (d - 1) (by omega) (by omega) (by omega) (by omega) (by omega) (by omega) kk
        · unfold f_X2_readClosing_u15; exact bad (Or.inr c2)
      · rw [if_pos c40] at kk
        unfold f_X2_readOpening f_X2_readOpening_u0
        rw [e3, e2]
        refine fun _ => ⟨fun c => ?_, fun c _ => ?_⟩
        · rw [if_neg c] at kk
          unfold f_X2_readOpening_u21
          rw [e3]
          refine fun _ => ⟨mt_I (by omega) (by omega), fun σ3 g3 σ4 g4 σ5 g5 => ?_⟩
          unfold f_X2_read_u110
          try dsimp only
          rw [g5, g4, g3, mt_gs_3, mt_gs_5, mt_gs_4, e2]
          refine fun _ => ⟨mt_I (by omega) (by omega), fun σ10 g10 => ?_⟩
          rw [g10, mt_gs_2]
          exact ih N (i + 1) (d + 1) 0 1 (by omega) (by omega) (by omega) (by omega) (Or.inl rfl) (Or.inr rfl) (Or.inl rfl) (by omega) (by omega) kk
        · rw [if_pos c] at kk
          refine s_faultAt ⟨by omega, by omega⟩ ⟨by omega, by omega⟩ (fun _ _ σ5 g5 => ?_)
          unfold f_X2_readOpening_u21
          rw [g5, mt_gs_6, e3]
          refine fun _ => ⟨mt_I (by omega) (by omega), fun σ3 g3 σ4 g4 σ5 g5 => ?_⟩
          unfold f_X2_read_u110
          try dsimp only
          rw [g5, g4, g3, mt_gs_3, mt_gs_5, mt_gs_4, e2]
          refine fun _ => ⟨mt_I (by omega) (by omega), fun σ10 g10 => ?_⟩
          rw [g10, mt_gs_2]
          obtain ⟨N, rfl⟩ : ∃ N', N = N' + 1 := ⟨N - 1, by omega⟩
          rw [show (-1000 * 4 - i) = -4000 - i by omega]
          exact EX N _ _ _ _ _ (by omega) (mt_I (by omega) (by omega)) kk
  unfold f_X2_faultIn f_X2_faultIn_u0
  intro σ1 g1 σ2 g2 σ3 g3 σ4 g4 σ5 g5 σ6 g6 σ7 g7
  have e7 : σ7 = mt_gs σ0 p n 0 0 0 1 0 := by
    rw [g7, g6, g5, g4, g3, g2, g1]
    funext a b
    unfold ml_up mt_gs
    by_cases q : a = 6
    · subst q
      by_cases r0 : b = 0
      · subst r0; simp
      by_cases r1 : b = 1
      · subst r1; simp
      by_cases r2 : b = 2
      · subst r2; simp
      by_cases r3 : b = 3
      · subst r3; simp
      by_cases r4 : b = 4
      · subst r4; simp
      by_cases r5 : b = 5
      · subst r5; simp
      by_cases r6 : b = 6
      · subst r6; simp
      simp [r0, r1, r2, r3, r4, r5, r6]
    · simp [q]
  rw [e7]
  exact ⟨n.toNat + 2, L (n.toNat + 1) (n.toNat + 2) 0 0 0 1 (by omega) n0 (by omega) (by omega) (Or.inl rfl) (Or.inr rfl) (Or.inl rfl) (by omega) (by omega) k⟩
/-! the model's isText -/
theorem mb_255 {x : Int} (h : ml_I8 x) : b_and x 255 = if x < 0 then x + 256 else x := by
  have key : ∀ n : Nat, n < 256 → b_and ((n : Int) - 128) 255 = if (n : Int) - 128 < 0 then (n : Int) - 128 + 256 else (n : Int) - 128 := by decide +kernel
  have := key (x + 128).toNat (by have := h.1; have := h.2; omega)
  rw [show (((x + 128).toNat : Nat) : Int) - 128 = x by have := h.1; omega] at this
  exact this
def mt_u (t : Int → Int) (n i : Int) : Int := if i < n then b_and (t i) 255 else 0
theorem mt_u_c {t : Int → Int} {n i : Int} (h : i < n → ml_I8 (t i)) : (0 ≤ mt_u t n i ∧ mt_u t n i ≤ 255) ∧ (mt_u t n i = mt_c t n i ∨ (128 ≤ mt_u t n i ∧ mt_c t n i < 0)) := by
  unfold mt_u mt_c
  by_cases q : i < n
  · rw [if_pos q, if_pos q, mb_255 (h q)]
    have := (h q).1
    have := (h q).2
    split <;> omega
  · rw [if_neg q, if_neg q]; omega
theorem mt_ds_next {t : Int → Int} {n : Int} : ∀ (F : Nat) (i : Int), mt_ds t n F i < F → ¬ (48 ≤ mt_c t n (i + mt_ds t n F i) ∧ mt_c t n (i + mt_ds t n F i) ≤ 57) := by
  intro F
  induction F with
  | zero => intro i h; have := (mt_ds_r (t := t) (n := n) 0 i).1; omega
  | succ F ih =>
    intro i h
    by_cases q : 48 ≤ mt_c t n i ∧ mt_c t n i ≤ 57
    · have e : mt_ds t n (F + 1) i = 1 + mt_ds t n F (i + 1) := by
        conv => lhs; unfold mt_ds
        rw [if_pos q]
      rw [e] at h ⊢
      rw [show i + (1 + mt_ds t n F (i + 1)) = i + 1 + mt_ds t n F (i + 1) by omega]
      exact ih (i + 1) (by omega)
    · have e : mt_ds t n (F + 1) i = 0 := by
        conv => lhs; unfold mt_ds
        rw [if_neg q]
      rw [e, Int.add_zero]; exact q
theorem mt_ds_s {t : Int → Int} {n i : Int} {F : Nat} : mt_ds t n (F + 1) i = if 48 ≤ mt_c t n i ∧ mt_c t n i ≤ 57 then 1 + mt_ds t n F (i + 1) else 0 := rfl
def mt_ms (σ : ml_St) (i n f d : Int) : ml_St := fun a b => if a = 215 then (if b = 9 then i else if b = 10 then n else if b = 11 then f else if b = 12 then d else σ 215 b) else σ a b
theorem mt_ms_k {σ : ml_St} {i n f d a : Int} (h : a ≠ 215) : mt_ms σ i n f d a = σ a := by funext b; unfold mt_ms; rw [if_neg h]
theorem mt_ms_9 {σ : ml_St} {i n f d v : Int} : ml_up (mt_ms σ i n f d) 215 9 v = mt_ms σ v n f d := by
  funext a b; unfold ml_up mt_ms
  by_cases q : a = 215
  · subst q; by_cases r : b = 9
    · subst r; simp
    · simp [r]
  · simp [q]
theorem mt_ms_11 {σ : ml_St} {i n f d v : Int} : ml_up (mt_ms σ i n f d) 215 11 v = mt_ms σ i n v d := by
  funext a b; unfold ml_up mt_ms
  by_cases q : a = 215
  · subst q; by_cases r : b = 11
    · subst r; simp
    · simp [r]
  · simp [q]
theorem mt_ms_12 {σ : ml_St} {i n f d v : Int} : ml_up (mt_ms σ i n f d) 215 12 v = mt_ms σ i n f v := by
  funext a b; unfold ml_up mt_ms
  by_cases q : a = 215
  · subst q; by_cases r : b = 12
    · subst r; simp
    · simp [r]
  · simp [q]
theorem s_here {Q : Int → ml_St → Prop} {σ : ml_St} {i n f d : Int} (i0 : 0 ≤ i) (n1 : n ≤ 100) (k : Q (mt_u (σ 216) n i) (mt_ms σ i n f d)) : f_X12_here (mt_ms σ i n f d) Q := by
  have e9 : mt_ms σ i n f d 215 9 = i := rfl
  have e10 : mt_ms σ i n f d 215 10 = n := rfl
  unfold f_X12_here f_X12_here_u0
  rw [e9, e10, mt_ms_k (by omega)]
  unfold mt_u at k
  refine fun _ _ => ⟨fun c => ?_, fun c _ => ⟨i0, by omega, fun _ => ?_⟩⟩
  · unfold f_X12_here_u28; rw [if_neg (by omega)] at k; exact k
  · unfold f_X12_here_u28; rw [if_pos (by omega)] at k; exact k
theorem s_dig12 {Q : Int → ml_St → Prop} {σ : ml_St} {x : Int} (k1 : 48 ≤ x ∧ x ≤ 57 → Q 1 σ) (k0 : ¬ (48 ≤ x ∧ x ≤ 57) → Q 0 σ) : f_X12_isDigit σ x Q := by
  unfold f_X12_isDigit f_X12_isDigit_u0
  refine ⟨fun c => ?_, fun c => ⟨fun d => ?_, fun d => ?_⟩⟩
  · unfold f_X12_isDigit_u16 f_X12_isDigit_u17; exact k0 (by omega)
  · unfold f_X12_isDigit_u16 f_X12_isDigit_u17; exact k0 (by omega)
  · unfold f_X12_isDigit_u17; exact k1 ⟨by omega, by omega⟩
theorem s_isGood {Q : Int → ml_St → Prop} {σ : ml_St} {i n f d : Int} (k1 : f = 0 → Q 1 (mt_ms σ i n f d)) (k0 : f ≠ 0 → Q 0 (mt_ms σ i n f d)) : f_X12_isGood (mt_ms σ i n f d) Q := by
  have e11 : mt_ms σ i n f d 215 11 = f := rfl
  unfold f_X12_isGood f_X12_isGood_u0
  rw [e11]
  unfold f_X12_isGood_u12
  exact fun _ => ⟨k0, k1⟩
theorem s_wrongs {Q : ml_St → Prop} {σ : ml_St} {i n d k x : Int} (k0 : 0 ≤ k ∧ k ≤ 5) (x0 : 0 ≤ x ∧ x ≤ 300) (q : Q (mt_ms σ i n (-1000 * k - x) d)) : f_X12_wrongs (mt_ms σ i n 0 d) k x Q := by
  have e11 : mt_ms σ i n 0 d 215 11 = 0 := rfl
  unfold f_X12_wrongs f_X12_wrongs_u0
  rw [e11]
  unfold f_X12_wrongs_u22
  refine fun _ => ⟨fun _ => ⟨mt_I (by omega) (by omega), mt_I (by omega) (by omega), fun σ1 e1 => ?_⟩, fun c => absurd c (by omega)⟩
  rw [e1, mt_ms_11]; exact q
theorem s_repeatsTold {Q : ml_St → Prop} {σ : ml_St} {i n d : Int} (i0 : 0 ≤ i) (i1 : i ≤ n) (n1 : n ≤ 100) (tI : ∀ i, 0 ≤ i → i < n → ml_I8 (σ 216 i)) (q : ∀ i', i ≤ i' → i' ≤ 200 → (mt_tf (σ 216) n i = 0 → i' = mt_tn (σ 216) n i) → Q (mt_ms σ i' n (mt_tf (σ 216) n i) d)) : f_X12_repeatsTold (mt_ms σ i n 0 d) Q := by
  have e9 : ∀ i f, mt_ms σ i n f d 215 9 = i := fun _ _ => rfl
  have uc := fun (j : Int) (hj : 0 ≤ j) => mt_u_c (t := σ 216) (n := n) (i := j) (fun c => tI j hj c)
  unfold f_X12_repeatsTold f_X12_repeatsTold_u0
  refine s_here i0 n1 (fun _ => ⟨fun c => ?_, fun c => ?_⟩)
  · have hu := uc i i0
    have hs : i < n ∧ σ 216 i = 42 := by
      have : mt_c (σ 216) n i = 42 := by omega
      unfold mt_c at this
      by_cases z : i < n
      · rw [if_pos z] at this; exact ⟨z, this⟩
      · rw [if_neg z] at this; omega
    rw [e9]
    refine fun _ => ⟨mt_I (by omega) (by omega), fun σ5 g5 => ?_⟩
    rw [g5, mt_ms_9, e9]
    intro _ y7 g7
    subst g7
    obtain ⟨r1, r2, r3⟩ := mt_ds_r (t := σ 216) (n := n) 9 (i + 1)
    have r3 := r3 (by omega)
    have etf : mt_tf (σ 216) n i = (if mt_ds (σ 216) n 9 (i + 1) = 0 then -1000 - (i + 1) else if 48 ≤ mt_c (σ 216) n (i + 1 + mt_ds (σ 216) n 9 (i + 1)) ∧ mt_c (σ 216) n (i + 1 + mt_ds (σ 216) n 9 (i + 1)) ≤ 57 then -2000 - (i + 1 + mt_ds (σ 216) n 9 (i + 1)) else 0) := by
      unfold mt_tf; rw [if_pos hs]
    have etn : mt_tn (σ 216) n i = i + 1 + mt_ds (σ 216) n 9 (i + 1) := by unfold mt_tn; rw [if_pos hs]
    refine s_here (by omega) n1 (fun _ => s_dig12 (fun z => ?_) (fun z => ?_))
    · refine fun _ => ⟨fun _ => ?_, fun c => absurd c (by omega)⟩
      have L : ∀ (N F : Nat) (j : Int), i + 1 ≤ j → j ≤ n → (j - (i + 1)) + F = 9 → F + 2 < N → mt_ds (σ 216) n 9 (i + 1) = (j - (i + 1)) + mt_ds (σ 216) n F j → f_X12_repeatsTold_u44 Q (f_X12_repeatsTold_u94 Q) N (mt_ms σ j n 0 d) (i + 1) := by
        intro N
        induction N with
        | zero => intro F j _ _ _ hN; omega
        | succ N ih =>
          intro F j j0 j1 jF hN hd
          unfold f_X12_repeatsTold_u44
          refine s_isGood (fun _ _ => ⟨fun c => absurd c (by omega), fun _ => ?_⟩) (fun c => absurd rfl c)
          have hu := uc j (by omega)
          refine s_here (by omega) n1 (fun _ => s_dig12 (fun y => ?_) (fun y => ?_))
          · have hc : 48 ≤ mt_c (σ 216) n j ∧ mt_c (σ 216) n j ≤ 57 := by omega
            have jn : j < n := by
              rcases Int.lt_or_le j n with c | c
              · exact c
              · unfold mt_c at hc; rw [if_neg (by omega)] at hc; omega
            refine fun _ => ⟨fun c => absurd c (by omega), fun _ => ?_⟩
            rw [e9]
            refine fun _ => ⟨mt_I (by omega) (by omega), fun c9 => ?_, fun c9 _ => ?_⟩
            · cases F with
              | zero => omega
              | succ F =>
                unfold f_X12_repeatsTold_u81
                rw [e9]
                refine fun _ => ⟨mt_I (by omega) (by omega), fun σ3 g3 => ?_⟩
                rw [g3, mt_ms_9]
                rw [mt_ds_s (F := F), if_pos hc] at hd
                exact ih F (j + 1) (by omega) (by omega) (by omega) (by omega) (by omega)
            · -- the tenth digit
              have hF : F = 0 := by omega
              subst hF
              have hd : mt_ds (σ 216) n 9 (i + 1) = j - (i + 1) := by rw [hd]; show j - (i + 1) + 0 = _; omega
              refine s_wrongs ⟨by omega, by omega⟩ ⟨by omega, by omega⟩ ?_
              unfold f_X12_repeatsTold_u81
              rw [e9]
              refine fun _ => ⟨mt_I (by omega) (by omega), fun σ3 g3 => ?_⟩
              rw [g3, mt_ms_9]
              obtain ⟨N, rfl⟩ : ∃ N', N = N' + 1 := ⟨N - 1, by omega⟩
              unfold f_X12_repeatsTold_u44
              refine s_isGood (fun c => absurd c (by omega)) (fun _ _ => ⟨fun _ => ?_, fun c => absurd rfl c⟩)
              unfold f_X12_repeatsTold_u94
              rw [hd, if_neg (by omega), show i + 1 + (j - (i + 1)) = j by omega, if_pos hc] at etf
              have g := q (j + 1) (by omega) (by omega) (fun c => absurd c (by omega))
              rw [etf] at g
              rw [show -1000 * 2 - j = -2000 - j by omega]
              exact g
          · refine fun _ => ⟨fun _ => ?_, fun c => absurd rfl c⟩
            have hc : ¬ (48 ≤ mt_c (σ 216) n j ∧ mt_c (σ 216) n j ≤ 57) := by omega
            have h0 : mt_ds (σ 216) n F j = 0 := by
              cases F with
              | zero => rfl
              | succ F => rw [mt_ds_s, if_neg hc]
            have hd : mt_ds (σ 216) n 9 (i + 1) = j - (i + 1) := by omega
            have hpos : mt_ds (σ 216) n 9 (i + 1) ≠ 0 := by
              have : 48 ≤ mt_c (σ 216) n (i + 1) ∧ mt_c (σ 216) n (i + 1) ≤ 57 := by have := uc (i + 1) (by omega); omega
              rw [mt_ds_s, if_pos this]
              have := (mt_ds_r (t := σ 216) (n := n) 8 (i + 1 + 1)).1
              omega
            unfold f_X12_repeatsTold_u94
            rw [if_neg hpos, hd, show i + 1 + (j - (i + 1)) = j by omega, if_neg hc] at etf
            have g := q j (by omega) (by omega) (fun _ => by rw [etn, hd]; omega)
            rw [etf] at g
            exact g
      exact ⟨20, L 20 9 (i + 1) (by omega) (by omega) (by omega) (by omega) (by omega)⟩
    · refine fun _ => ⟨fun c => absurd rfl c, fun _ => ?_⟩
      rw [e9]
      refine fun _ => s_wrongs ⟨by omega, by omega⟩ ⟨by omega, by omega⟩ ⟨1, ?_⟩
      unfold f_X12_repeatsTold_u44
      refine s_isGood (fun c => absurd c (by omega)) (fun _ _ => ⟨fun _ => ?_, fun c => absurd rfl c⟩)
      unfold f_X12_repeatsTold_u94
      have hc : ¬ (48 ≤ mt_c (σ 216) n (i + 1) ∧ mt_c (σ 216) n (i + 1) ≤ 57) := by have := uc (i + 1) (by omega); omega
      have h0 : mt_ds (σ 216) n 9 (i + 1) = 0 := by rw [mt_ds_s, if_neg hc]
      rw [if_pos h0] at etf
      have g := q (i + 1) (by omega) (by omega) (fun c => absurd c (by omega))
      rw [etf] at g
      rw [show -1000 * 1 - (i + 1) = -1000 - (i + 1) by omega]
      exact g
  · have hs : ¬ (i < n ∧ σ 216 i = 42) := fun z => by
      have hu := uc i i0
      have : mt_c (σ 216) n i = 42 := by unfold mt_c; rw [if_pos z.1]; exact z.2
      omega
    have e1 : mt_tf (σ 216) n i = 0 := by unfold mt_tf; rw [if_neg hs]
    have e2 : mt_tn (σ 216) n i = i := by unfold mt_tn; rw [if_neg hs]
    have g := q i (by omega) (by omega) (fun _ => e2.symm)
    rw [e1] at g
    exact g
theorem s_isText {Q : Int → ml_St → Prop} {τ : ml_St} {n h w : Int} (n0 : 0 ≤ n) (n1 : n ≤ 100) (h2 : 2 ≤ h) (h5 : h ≤ 5) (w0 : 0 ≤ w) (w1 : w ≤ 16) (th : τ 215 2 = h) (tI : ∀ i, 0 ≤ i → i < n → ml_I8 (τ 216 i)) (k : ∀ i' d', Q (if mt_gr (τ 216) n h w (n.toNat + 1) 0 0 1 = 0 then 1 else 0) (mt_ms τ i' n (mt_gr (τ 216) n h w (n.toNat + 1) 0 0 1) d')) : f_X12_isText τ w n Q := by
  obtain ⟨G, hG⟩ : ∃ G : Int → Prop, ∀ f, G f ↔ ∀ i' d', Q (if f = 0 then 1 else 0) (mt_ms τ i' n f d') := ⟨_, fun _ => Iff.rfl⟩
  have k := (hG _).2 k
  have e9 : ∀ i f d, mt_ms τ i n f d 215 9 = i := fun _ _ _ => rfl
  have e10 : ∀ i f d, mt_ms τ i n f d 215 10 = n := fun _ _ _ => rfl
  have e12 : ∀ i f d, mt_ms τ i n f d 215 12 = d := fun _ _ _ => rfl
  have eh : ∀ i f d, mt_ms τ i n f d 215 2 = h := fun _ _ _ => th
  have uc := fun (j : Int) (hj : 0 ≤ j) => mt_u_c (t := τ 216) (n := n) (i := j) (fun c => tI j hj c)
  have EX : ∀ i f d, (G f) → f_X12_isText_u168 Q (mt_ms τ i n f d) := by
    intro i f d kk
    unfold f_X12_isText_u168
    refine s_isGood (fun c _ => ?_) (fun c _ => ?_)
    · have := (hG _).1 kk i d; rw [if_pos c] at this; exact this
    · have := (hG _).1 kk i d; rw [if_neg c] at this; exact this
  have EF : ∀ (N : Nat) i f d need, f ≠ 0 → (G f) → f_X12_isText_u22 Q (f_X12_isText_u168 Q) (N + 1) (mt_ms τ i n f d) w need := by
    intro N i f d need hf kk
    unfold f_X12_isText_u22
    exact s_isGood (fun c => absurd c hf) (fun _ _ => ⟨fun _ => EX i f d kk, fun c => absurd rfl c⟩)
  have L : ∀ (F N : Nat) (i d need : Int), 0 ≤ i → i ≤ n → 0 ≤ d → d ≤ 6 → (need = 0 ∨ need = 1) → n - i < F → F + 1 < N →
      (G (mt_gr (τ 216) n h w F i d need)) → f_X12_isText_u22 Q (f_X12_isText_u168 Q) N (mt_ms τ i n 0 d) w need := by
    intro F
    induction F with
    | zero => intro N i d need i0 i1 d0 d6 hn hF; omega
    | succ F ih =>
      intro N i d need i0 i1 d0 d6 hn hF hN kk
      obtain ⟨N, rfl⟩ : ∃ N', N = N' + 1 := ⟨N - 1, by omega⟩
      -- behind an item: times, then on
      have RT : ∀ (j d need : Int), 0 ≤ j → j ≤ n → n - j < F → 0 ≤ d → d ≤ 6 → need = 0 → (G (if mt_tf (τ 216) n j ≠ 0 then mt_tf (τ 216) n j else mt_gr (τ 216) n h w F (mt_tn (τ 216) n j) d 0)) →
          f_X12_repeatsTold (mt_ms τ j n 0 d) (fun σ5 => f_X12_isText_u22 Q (f_X12_isText_u168 Q) N σ5 w need) := by
        intro j d need j0 j1 hj d0 d6 hn kk
        refine s_repeatsTold j0 j1 n1 tI (fun i' i0' i1' et => ?_)
        by_cases z : mt_tf (τ 216) n j = 0
        · rw [if_neg (fun c => c z)] at kk
          rw [z, et z]
          have r := mt_tn_r (t := τ 216) j1
          exact ih N _ d need (by omega) r.2 d0 d6 (Or.inl hn) (by omega) (by omega) (by rw [hn]; exact kk)
        · rw [if_pos z] at kk
          obtain ⟨N, rfl⟩ : ∃ N', N = N' + 1 := ⟨N - 1, by omega⟩
          exact EF N i' _ d need z kk
      -- a fault: on, and out
      have WR : ∀ (x kd d s0 : Int), 0 ≤ kd ∧ kd ≤ 5 → kd ≠ 0 → 0 ≤ x ∧ x ≤ 200 → (G (-1000 * kd - x)) → f_X12_wrongs (mt_ms τ x n 0 d) kd x (fun σ13 => f_X12_item_u155 (fun σ1 => f_X12_isGood σ1 (fun r2 σ2 => ∀ _ : ml_B r2, (r2 = 0 → f_X12_isText_u162 Q (f_X12_isText_u22 Q (f_X12_isText_u168 Q) N) σ2 w s0) ∧ (r2 ≠ 0 → (s0 ≠ 0 → f_X12_isText_u162 Q (f_X12_isText_u22 Q (f_X12_isText_u168 Q) N) σ2 w s0) ∧ (s0 = 0 → f_X12_repeatsTold σ2 (fun σ5 => f_X12_isText_u162 Q (f_X12_isText_u22 Q (f_X12_isText_u168 Q) N) σ5 w s0))))) σ13) := by
        intro x kd d s0 hk hk0 hx kk
        refine s_wrongs hk ⟨hx.1, by omega⟩ ?_
        unfold f_X12_item_u155
        rw [e9]
        refine fun _ => ⟨mt_I (by omega) (by omega), fun σ3 g3 => ?_⟩
        rw [g3, mt_ms_9]
        refine s_isGood (fun c => absurd c (by omega)) (fun _ _ => ⟨fun _ => ?_, fun c => absurd rfl c⟩)
        unfold f_X12_isText_u162
        obtain ⟨N, rfl⟩ : ∃ N', N = N' + 1 := ⟨N - 1, by omega⟩
        exact EF N _ _ d s0 (by omega) kk
      have GD : ∀ (x d s0 : Int), 0 ≤ x ∧ x ≤ 200 → (s0 ≠ 0 → f_X12_isText_u22 Q (f_X12_isText_u168 Q) N (mt_ms τ (x + 1) n 0 d) w s0) → (s0 = 0 → f_X12_repeatsTold (mt_ms τ (x + 1) n 0 d) (fun σ5 => f_X12_isText_u22 Q (f_X12_isText_u168 Q) N σ5 w s0)) → f_X12_item_u155 (fun σ1 => f_X12_isGood σ1 (fun r2 σ2 => ∀ _ : ml_B r2, (r2 = 0 → f_X12_isText_u162 Q (f_X12_isText_u22 Q (f_X12_isText_u168 Q) N) σ2 w s0) ∧ (r2 ≠ 0 → (s0 ≠ 0 → f_X12_isText_u162 Q (f_X12_isText_u22 Q (f_X12_isText_u168 Q) N) σ2 w s0) ∧ (s0 = 0 → f_X12_repeatsTold σ2 (fun σ5 => f_X12_isText_u162 Q (f_X12_isText_u22 Q (f_X12_isText_u168 Q) N) σ5 w s0))))) (mt_ms τ x n 0 d) := by
        intro x d s0 hx k1 k2
        unfold f_X12_item_u155
        rw [e9]
        refine fun _ => ⟨mt_I (by omega) (by omega), fun σ3 g3 => ?_⟩
        rw [g3, mt_ms_9]
        exact s_isGood (fun _ _ => ⟨fun c => absurd c (by omega), fun _ => ⟨k1, k2⟩⟩) (fun c => absurd rfl c)
      have hu := uc i i0
      have uci : i < n → mt_c (τ 216) n i = τ 216 i := fun c => by unfold mt_c; rw [if_pos c]
      have ucn : ¬ i < n → mt_c (τ 216) n i = 0 := fun c => by unfold mt_c; rw [if_neg c]
      -- an item wanted or allowed
      have IT : ¬ (i < n ∧ τ 216 i = 41 ∧ d ≠ 0 ∧ need = 0) → ¬ (n ≤ i ∧ need = 0) → f_X12_isText_u125 Q (f_X12_isText_u22 Q (f_X12_isText_u168 Q) N) (mt_ms τ i n 0 d) w := by
        intro nc ne
        unfold mt_gr at kk
        unfold f_X12_isText_u125
        refine s_here i0 n1 (fun _ => ?_)
        have go : ∀ s0, (mt_u (τ 216) n i = 40 → s0 = 1) → (mt_u (τ 216) n i ≠ 40 → s0 = 0) → f_X12_isText_u139 Q (f_X12_isText_u22 Q (f_X12_isText_u168 Q) N) (mt_ms τ i n 0 d) w s0 := by
          intro s0 hs1 hs0
          have F1 : (G (-1000 - i)) → f_X12_item_u146 (fun σ1 => f_X12_isGood σ1 (fun r2 σ2 => ∀ _ : ml_B r2, (r2 = 0 → f_X12_isText_u162 Q (f_X12_isText_u22 Q (f_X12_isText_u168 Q) N) σ2 w s0) ∧ (r2 ≠ 0 → (s0 ≠ 0 → f_X12_isText_u162 Q (f_X12_isText_u22 Q (f_X12_isText_u168 Q) N) σ2 w s0) ∧ (s0 = 0 → f_X12_repeatsTold σ2 (fun σ5 => f_X12_isText_u162 Q (f_X12_isText_u22 Q (f_X12_isText_u168 Q) N) σ5 w s0))))) (mt_ms τ i n 0 d) := by
            intro kk
            unfold f_X12_item_u146
            rw [e9]
            refine fun _ => WR i 1 d s0 (by omega) (by omega) (by omega) ?_
            rw [show -1000 * 1 - i = -1000 - i by omega]; exact kk
          have RD : i < n → (τ 216 i = 120 ∨ τ 216 i = 117) → s0 = 0 → f_X12_item_u54 (fun σ1 => f_X12_isGood σ1 (fun r2 σ2 => ∀ _ : ml_B r2, (r2 = 0 → f_X12_isText_u162 Q (f_X12_isText_u22 Q (f_X12_isText_u168 Q) N) σ2 w s0) ∧ (r2 ≠ 0 → (s0 ≠ 0 → f_X12_isText_u162 Q (f_X12_isText_u22 Q (f_X12_isText_u168 Q) N) σ2 w s0) ∧ (s0 = 0 → f_X12_repeatsTold σ2 (fun σ5 => f_X12_isText_u162 Q (f_X12_isText_u22 Q (f_X12_isText_u168 Q) N) σ5 w s0))))) (mt_ms τ i n 0 d) := by
            intro ci hc hs
            rw [if_neg (by omega), if_neg (by omega), if_neg (by omega), if_pos hc] at kk
            have hu1 := uc (i + 1) (by omega)
            unfold f_X12_item_u54
            rw [e9]
            refine fun _ => ⟨mt_I (by omega) (by omega), fun σ3 g3 => ?_⟩
            rw [g3, mt_ms_9]
            refine s_here (by omega) n1 (fun _ => s_dig12 (fun z => ?_) (fun z => ?_))
            · rw [if_neg (by omega)] at kk
              refine fun _ => ⟨fun _ => ?_, fun c => absurd c (by omega)⟩
              refine s_here (by omega) n1 ?_
              rw [eh]
              refine fun _ => ⟨mt_I (by omega) (by omega), fun _ => ⟨mt_I (by omega) (by omega), fun c => ?_, fun c => ?_⟩⟩
              · rw [if_neg (by omega)] at kk
                have jn : i + 1 < n := by
                  rcases Int.lt_or_le (i + 1) n with c | c
                  · exact c
                  · unfold mt_u at z; rw [if_neg (by omega)] at z; omega
                refine GD (i + 1) d s0 (by omega) (fun c => absurd hs c) (fun _ => ?_)
                rw [show i + 1 + 1 = i + 2 by omega]
                exact RT (i + 2) d s0 (by omega) (by omega) (by omega) d0 d6 hs kk
              · rw [if_pos (by omega)] at kk
                rw [e9]
                refine fun _ => WR (i + 1) 3 d s0 (by omega) (by omega) (by omega) ?_
                rw [show -1000 * 3 - (i + 1) = -3000 - (i + 1) by omega]; exact kk
            · rw [if_pos (by omega)] at kk
              refine fun _ => ⟨fun c => absurd rfl c, fun _ => ?_⟩
              rw [e9]
              refine fun _ => WR (i + 1) 1 d s0 (by omega) (by omega) (by omega) ?_
              rw [show -1000 * 1 - (i + 1) = -1000 - (i + 1) by omega]; exact kk
          unfold f_X12_isText_u139 f_X12_item f_X12_item_u0
          refine s_here i0 n1 (fun _ => ⟨fun c40 => ⟨fun c120 => ?_, fun c120 => ⟨fun c117 => ?_, fun c117 => ?_⟩⟩, fun c40 => ?_⟩)
          · have ci : i < n := by
              rcases Int.lt_or_le i n with c | c
              · exact c
              · have := ucn (by omega); omega
            exact RD ci (Or.inl (by have := uci ci; omega)) (hs0 c40)
          · -- neither sign: a letter, or nothing that may stand here
            by_cases ci : i < n
            · have e := uci ci
              rw [if_neg (by omega), if_neg (by omega)] at kk
              have f41 : τ 216 i = 41 → G (-1000 - i) := by
                intro c
                rw [if_pos c, if_pos (by omega)] at kk
                exact kk
              refine ⟨fun c65 => ?_, fun c65 => ⟨fun c81 => ?_, fun c81 => ⟨mt_I (by omega) (by omega), fun cw => ?_, fun cw => ?_⟩⟩⟩
              · by_cases c41 : τ 216 i = 41
                · exact F1 (f41 c41)
                · rw [if_neg c41, if_neg (by omega), if_neg (by omega)] at kk
                  exact F1 kk
              · rw [if_neg (by omega), if_neg (by omega), if_neg (by omega)] at kk
                exact F1 kk
              · rw [if_neg (by omega), if_neg (by omega), if_pos ⟨by omega, by omega⟩, if_neg (by omega)] at kk
                refine GD i d s0 (by omega) (fun c => absurd (hs0 c40) c) (fun _ => ?_)
                exact RT (i + 1) d s0 (by omega) (by omega) (by omega) d0 d6 (hs0 c40) kk
              · rw [if_neg (by omega), if_neg (by omega), if_pos ⟨by omega, by omega⟩, if_pos (by omega)] at kk
                rw [e9]
                refine fun _ => WR i 3 d s0 (by omega) (by omega) (by omega) ?_
                rw [show -1000 * 3 - i = -3000 - i by omega]; exact kk
            · have e := ucn ci
              rw [if_pos (by omega), if_neg (by omega)] at kk
              have ein : i = n := by omega
              refine ⟨fun c65 => ?_, fun c65 => absurd (by omega) c65⟩
              exact F1 (by rw [ein]; exact kk)
          · have ci : i < n := by
              rcases Int.lt_or_le i n with c | c
              · exact c
              · have := ucn (by omega); omega
            exact RD ci (Or.inr (by have := uci ci; omega)) (hs0 c40)
          · have ci : i < n := by
              rcases Int.lt_or_le i n with c | c
              · exact c
              · have := ucn (by omega); omega
            have e := uci ci
            rw [if_neg (by omega), if_pos (by omega)] at kk
            have s1 := hs1 c40
            rw [e12]
            refine fun _ => ⟨fun c6 => ?_, fun c6 => ?_⟩
            · rw [if_neg c6] at kk
              unfold f_X12_item_u29
              rw [e12]
              refine fun _ => ⟨mt_I (by omega) (by omega), fun σ3 g3 => ?_⟩
              rw [g3, mt_ms_12]
              refine GD i (d + 1) s0 (by omega) (fun _ => ?_) (fun c => absurd c (by omega))
              rw [s1]
              exact ih N (i + 1) (d + 1) 1 (by omega) (by omega) (by omega) (by omega) (Or.inr rfl) (by omega) (by omega) kk
            · rw [if_pos c6] at kk
              rw [e9]
              refine fun _ => s_wrongs ⟨by omega, by omega⟩ ⟨by omega, by omega⟩ ?_
              unfold f_X12_item_u29
              rw [e12]
              refine fun _ => ⟨mt_I (by omega) (by omega), fun σ3 g3 => ?_⟩
              rw [g3, mt_ms_12]
              unfold f_X12_item_u155
              rw [e9]
              refine fun _ => ⟨mt_I (by omega) (by omega), fun σ4 g4 => ?_⟩
              rw [g4, mt_ms_9]
              refine s_isGood (fun c => absurd c (by omega)) (fun _ _ => ⟨fun _ => ?_, fun c => absurd rfl c⟩)
              unfold f_X12_isText_u162
              obtain ⟨N, rfl⟩ : ∃ N', N = N' + 1 := ⟨N - 1, by omega⟩
              refine EF N _ _ _ _ (by omega) ?_
              rw [show -1000 * 4 - i = -4000 - i by omega]; exact kk
        exact ⟨fun c => go 0 (fun z => absurd z c) (fun _ => rfl), fun c => go 1 (fun _ => rfl) (fun z => absurd c z)⟩
      -- the parts of one round
      have U51 : ¬ (n ≤ i ∧ need = 0 ∧ d = 0) → f_X12_isText_u51 Q (f_X12_isText_u22 Q (f_X12_isText_u168 Q) N) (mt_ms τ i n 0 d) w need := by
        intro nE
        have U98 : ¬ (i < n ∧ τ 216 i = 41 ∧ d ≠ 0 ∧ need = 0) → f_X12_isText_u98 Q (f_X12_isText_u22 Q (f_X12_isText_u168 Q) N) (mt_ms τ i n 0 d) w need := by
          intro nc
          unfold f_X12_isText_u98
          refine ⟨fun c => IT nc (fun z => c z.2), fun c => ?_⟩
          rw [e9, e10]
          refine fun _ _ => ⟨fun c1 => IT nc (fun z => by omega), fun c1 => ?_⟩
          refine fun _ => s_wrongs ⟨by omega, by omega⟩ ⟨by omega, by omega⟩ ?_
          obtain ⟨N, rfl⟩ : ∃ N', N = N' + 1 := ⟨N - 1, by omega⟩
          refine EF N _ _ _ _ (by omega) ?_
          unfold mt_gr at kk
          rw [if_pos (by omega), if_neg (by omega)] at kk
          rw [show -1000 * 1 - i = -1000 - n by omega]; exact kk
        unfold f_X12_isText_u51
        refine ⟨fun c => U98 (fun z => c z.2.2.2), fun c => s_here i0 n1 (fun _ => ⟨fun c41 => U98 (fun z => ?_), fun c41 => ?_⟩)⟩
        · have := uci z.1; omega
        · have ci : i < n := by
            rcases Int.lt_or_le i n with c | c
            · exact c
            · have := ucn (by omega); omega
          have e := uci ci
          rw [e12]
          refine fun _ => ⟨fun cd => U98 (fun z => z.2.2.1 (by omega)), fun cd _ => ⟨mt_I (by omega) (by omega), fun σ8 g8 => ?_⟩⟩
          rw [g8, mt_ms_12, e9]
          refine fun _ => ⟨mt_I (by omega) (by omega), fun σ11 g11 => ?_⟩
          rw [g11, mt_ms_9]
          unfold mt_gr at kk
          rw [if_neg (by omega), if_neg (by omega), if_pos (by omega), if_neg (by omega)] at kk
          exact RT (i + 1) (d - 1) need (by omega) (by omega) (by omega) (by omega) (by omega) c kk
      unfold f_X12_isText_u22
      refine s_isGood (fun _ _ => ⟨fun c => absurd c (by omega), fun _ => ?_⟩) (fun c => absurd rfl c)
      rw [e9, e10, e12]
      have OUT : n ≤ i ∧ need = 0 ∧ d = 0 → f_X12_isText_u168 Q (mt_ms τ i n 0 d) := by
        intro z
        unfold mt_gr at kk
        rw [if_pos z.1, if_pos z.2] at kk
        exact EX i 0 d kk
      refine fun _ _ => ⟨fun c => U51 (by omega), fun c => ⟨fun c1 => U51 (by omega), fun c1 _ => ⟨fun c2 => OUT (by omega), fun c2 => U51 (by omega)⟩⟩⟩
  unfold f_X12_isText f_X12_isText_u0
  intro σ1 g1 σ2 g2 σ3 g3 σ4 g4
  have e4 : σ4 = mt_ms τ 0 n 0 0 := by
    rw [g4, g3, g2, g1]
    funext a b
    unfold ml_up mt_ms
    by_cases q : a = 215
    · subst q
      by_cases r0 : b = 9
      · subst r0; simp
      by_cases r1 : b = 10
      · subst r1; simp
      by_cases r2 : b = 11
      · subst r2; simp
      by_cases r3 : b = 12
      · subst r3; simp
      simp [r0, r1, r2, r3]
    · simp [q]
  rw [e4]
  exact ⟨n.toNat + 3, L (n.toNat + 1) (n.toNat + 3) 0 0 1 (by omega) n0 (by omega) (by omega) (Or.inr rfl) (by omega) (by omega) k⟩
/-! a TEXT without fault, part by part -/
theorem mt_gr_c {t : Int → Int} {n h w : Int} {F : Nat} {i d need : Int} (n0 : 0 ≤ n) (i0 : 0 ≤ i) (g : mt_gr t n h w (F + 1) i d need = 0) :
    (n ≤ i ∧ need = 0 ∧ d = 0) ∨ (i < n ∧ t i = 40 ∧ d ≠ 6 ∧ mt_gr t n h w F (i + 1) (d + 1) 1 = 0) ∨
    (i < n ∧ t i = 41 ∧ d ≠ 0 ∧ need = 0 ∧ mt_tf t n (i + 1) = 0 ∧ mt_gr t n h w F (mt_tn t n (i + 1)) (d - 1) 0 = 0) ∨
    (i < n ∧ (t i = 120 ∨ t i = 117) ∧ i + 1 < n ∧ 48 ≤ t (i + 1) ∧ t (i + 1) ≤ 57 ∧ t (i + 1) - 48 ≤ h - 2 ∧ mt_tf t n (i + 2) = 0 ∧ mt_gr t n h w F (mt_tn t n (i + 2)) d 0 = 0) ∨
    (i < n ∧ 65 ≤ t i ∧ t i < 81 ∧ t i - 65 < w ∧ mt_tf t n (i + 1) = 0 ∧ mt_gr t n h w F (mt_tn t n (i + 1)) d 0 = 0) := by
  unfold mt_gr at g
  by_cases c0 : n ≤ i
  · rw [if_pos c0] at g
    left
    by_cases q : need = 0 ∧ d = 0
    · exact ⟨c0, q.1, q.2⟩
    · rw [if_neg q] at g; omega
  rw [if_neg c0] at g
  right
  by_cases c1 : t i = 40
  · rw [if_pos c1] at g
    left
    by_cases q : d = 6
    · rw [if_pos q] at g; omega
    · rw [if_neg q] at g; exact ⟨by omega, c1, q, g⟩
  rw [if_neg c1] at g
  right
  by_cases c2 : t i = 41
  · rw [if_pos c2] at g
    left
    by_cases q : d = 0 ∨ need ≠ 0
    · rw [if_pos q] at g; omega
    · rw [if_neg q] at g
      by_cases z : mt_tf t n (i + 1) = 0
      · rw [if_neg (fun c => c z)] at g; exact ⟨by omega, c2, by omega, by omega, z, g⟩
      · rw [if_pos z] at g; exact absurd g z
  rw [if_neg c2] at g
  right
  by_cases c3 : t i = 120 ∨ t i = 117
  · rw [if_pos c3] at g
    left
    by_cases q : 48 ≤ mt_c t n (i + 1) ∧ mt_c t n (i + 1) ≤ 57
    · rw [if_neg (fun c => c q)] at g
      have jn : i + 1 < n := by
        rcases Int.lt_or_le (i + 1) n with c | c
        · exact c
        · unfold mt_c at q; rw [if_neg (by omega)] at q; omega
      have e : mt_c t n (i + 1) = t (i + 1) := by unfold mt_c; rw [if_pos jn]
      rw [e] at g q
      by_cases y : h - 2 < t (i + 1) - 48
      · rw [if_pos y] at g; omega
      · rw [if_neg y] at g
        by_cases z : mt_tf t n (i + 2) = 0
        · rw [if_neg (fun c => c z)] at g; exact ⟨by omega, c3, jn, q.1, q.2, by omega, z, g⟩
        · rw [if_pos z] at g; exact absurd g z
    · rw [if_pos q] at g; omega
  rw [if_neg c3] at g
  right
  by_cases c4 : 65 ≤ t i ∧ t i < 81
  · rw [if_pos c4] at g
    by_cases q : w ≤ t i - 65
    · rw [if_pos q] at g; omega
    · rw [if_neg q] at g
      by_cases z : mt_tf t n (i + 1) = 0
      · rw [if_neg (fun c => c z)] at g; exact ⟨by omega, c4.1, c4.2, by omega, z, g⟩
      · rw [if_pos z] at g; exact absurd g z
  · rw [if_neg c4] at g; omega
/-- the value of m digits from j on -/
def mt_vl (t : Int → Int) (j : Int) : Nat → Int
  | 0 => 0
  | m + 1 => 10 * mt_vl t j m + (t (j + m) - 48)
def mt_tm (t : Int → Int) (n i : Int) : Int := if i < n ∧ t i = 42 then mt_vl t (i + 1) (mt_ds t n 9 (i + 1)).toNat else 1
theorem mt_ds_d {t : Int → Int} {n : Int} : ∀ (F : Nat) (i : Int) (k : Nat), (k : Int) < mt_ds t n F i → i + k < n ∧ 48 ≤ t (i + k) ∧ t (i + k) ≤ 57 := by
  intro F
  induction F with
  | zero => intro i k hk; have : mt_ds t n 0 i = 0 := rfl; omega
  | succ F ih =>
    intro i k hk
    rw [mt_ds_s] at hk
    by_cases q : 48 ≤ mt_c t n i ∧ mt_c t n i ≤ 57
    · rw [if_pos q] at hk
      have jn : i < n := by
        rcases Int.lt_or_le i n with c | c
        · exact c
        · unfold mt_c at q; rw [if_neg (by omega)] at q; omega
      have e : mt_c t n i = t i := by unfold mt_c; rw [if_pos jn]
      cases k with
      | zero => rw [Int.natCast_zero, Int.add_zero]; rw [e] at q; exact ⟨jn, q.1, q.2⟩
      | succ k =>
        have := ih (i + 1) k (by omega)
        rw [show i + ((k + 1 : Nat) : Int) = i + 1 + k by omega]
        exact this
    · rw [if_neg q] at hk; omega
theorem mt_vl_r {t : Int → Int} {j : Int} : ∀ m : Nat, (∀ k : Nat, k < m → 48 ≤ t (j + k) ∧ t (j + k) ≤ 57) → 0 ≤ mt_vl t j m ∧ mt_vl t j m < ((10 ^ m : Nat) : Int) := by
  intro m
  induction m with
  | zero => intro _; exact ⟨Int.le_refl 0, by show (0:Int) < ((1:Nat):Int); omega⟩
  | succ m ih =>
    intro hd
    have i := ih (fun k hk => hd k (by omega))
    have d := hd m (by omega)
    unfold mt_vl
    rw [Nat.pow_succ, Int.natCast_mul]
    omega
/-- times that are told: m digits -/
theorem mt_tf_0 {t : Int → Int} {n i : Int} (i0 : 0 ≤ i) (g : mt_tf t n i = 0) (s : i < n ∧ t i = 42) : ∃ m : Nat, 1 ≤ m ∧ m ≤ 9 ∧ mt_tn t n i = i + 1 + m ∧ i + 1 + m ≤ n ∧ mt_tm t n i = mt_vl t (i + 1) m ∧ (∀ k : Nat, k < m → 48 ≤ t (i + 1 + k) ∧ t (i + 1 + k) ≤ 57) ∧ (i + 1 + m < n → ¬ (48 ≤ t (i + 1 + m) ∧ t (i + 1 + m) ≤ 57)) := by
  obtain ⟨r1, r2, r3⟩ := mt_ds_r (t := t) (n := n) 9 (i + 1)
  have r3 := r3 (by omega)
  have dd := mt_ds_d (t := t) (n := n) 9 (i + 1)
  have e1 : mt_tn t n i = i + 1 + mt_ds t n 9 (i + 1) := by unfold mt_tn; rw [if_pos s]
  have e2 : mt_tm t n i = mt_vl t (i + 1) (mt_ds t n 9 (i + 1)).toNat := by unfold mt_tm; rw [if_pos s]
  unfold mt_tf at g
  rw [if_pos s] at g
  by_cases z : mt_ds t n 9 (i + 1) = 0
  · rw [if_pos z] at g; omega
  · rw [if_neg z] at g
    by_cases y : 48 ≤ mt_c t n (i + 1 + mt_ds t n 9 (i + 1)) ∧ mt_c t n (i + 1 + mt_ds t n 9 (i + 1)) ≤ 57
    · rw [if_pos y] at g; omega
    · generalize mt_ds t n 9 (i + 1) = x at *
      obtain ⟨m, rfl⟩ := Int.eq_ofNat_of_zero_le r1
      refine ⟨m, by omega, by omega, e1, by omega, by rw [e2]; rfl, fun k hk => (dd k (by omega)).2, fun hn c => y ?_⟩
      unfold mt_c
      rw [if_pos (by omega)]; exact c
theorem mt_tm_r {t : Int → Int} {n i : Int} (i0 : 0 ≤ i) (g : mt_tf t n i = 0) : 0 ≤ mt_tm t n i ∧ mt_tm t n i < 1000000000 := by
  by_cases s : i < n ∧ t i = 42
  · obtain ⟨m, m1, m2, e1, e2, e3, e4, e5⟩ := mt_tf_0 i0 g s
    have r := mt_vl_r m e4
    have l : (10 : Nat) ^ m ≤ 10 ^ 9 := Nat.pow_le_pow_right (by omega) m2
    rw [e3]
    omega
  · unfold mt_tm; rw [if_neg s]; omega
/-- the class's Items -/
def mt_is (σ : ml_St) (p n i kd v tm : Int) : ml_St := fun a b => if a = 9 then (if b = 0 then p else if b = 1 then n else if b = 2 then i else if b = 3 then kd else if b = 4 then v else if b = 5 then tm else σ 9 b) else σ a b
theorem mt_is_k {σ : ml_St} {p n i kd v tm a : Int} (h : a ≠ 9) : mt_is σ p n i kd v tm a = σ a := by funext b; unfold mt_is; rw [if_neg h]
theorem mt_is_2 {σ : ml_St} {p n i kd v tm x : Int} : ml_up (mt_is σ p n i kd v tm) 9 2 x = mt_is σ p n x kd v tm := by
  funext a b; unfold ml_up mt_is
  by_cases q : a = 9
  · subst q; by_cases r : b = 2
    · subst r; simp
    · simp [r]
  · simp [q]
theorem mt_is_3 {σ : ml_St} {p n i kd v tm x : Int} : ml_up (mt_is σ p n i kd v tm) 9 3 x = mt_is σ p n i x v tm := by
  funext a b; unfold ml_up mt_is
  by_cases q : a = 9
  · subst q; by_cases r : b = 3
    · subst r; simp
    · simp [r]
  · simp [q]
theorem mt_is_4 {σ : ml_St} {p n i kd v tm x : Int} : ml_up (mt_is σ p n i kd v tm) 9 4 x = mt_is σ p n i kd x tm := by
  funext a b; unfold ml_up mt_is
  by_cases q : a = 9
  · subst q; by_cases r : b = 4
    · subst r; simp
    · simp [r]
  · simp [q]
theorem mt_is_5 {σ : ml_St} {p n i kd v tm x : Int} : ml_up (mt_is σ p n i kd v tm) 9 5 x = mt_is σ p n i kd v x := by
  funext a b; unfold ml_up mt_is
  by_cases q : a = 9
  · subst q; by_cases r : b = 5
    · subst r; simp
    · simp [r]
  · simp [q]
theorem s_begin {Q : ml_St → Prop} {σ : ml_St} {p n : Int} (k : Q (mt_is σ p n 0 (σ 9 3) (σ 9 4) (σ 9 5))) : f_X3_begin σ p n Q := by
  unfold f_X3_begin f_X3_begin_u0
  intro σ1 g1 σ2 g2 σ3 g3
  have e : σ3 = mt_is σ p n 0 (σ 9 3) (σ 9 4) (σ 9 5) := by
    rw [g3, g2, g1]
    funext a b
    unfold ml_up mt_is
    by_cases q : a = 9
    · subst q
      by_cases r0 : b = 0
      · subst r0; simp
      by_cases r1 : b = 1
      · subst r1; simp
      by_cases r2 : b = 2
      · subst r2; simp
      by_cases r3 : b = 3
      · subst r3; simp
      by_cases r4 : b = 4
      · subst r4; simp
      by_cases r5 : b = 5
      · subst r5; simp
      simp [r0, r1, r2, r3, r4, r5]
    · simp [q]
  rw [e]; exact k
theorem s_take {Q : Int → ml_St → Prop} {σ : ml_St} {p n i kd v tm : Int} (tx : ml_tx p) (p9 : p ≠ 9) (i0 : 0 ≤ i) (i1 : i < n) (n1 : n ≤ 100) (k : Q (σ p i) (mt_is σ p n (i + 1) kd v tm)) : f_X3_take (mt_is σ p n i kd v tm) Q := by
  have e0 : mt_is σ p n i kd v tm 9 0 = p := rfl
  have e1 : mt_is σ p n i kd v tm 9 1 = n := rfl
  have e2 : mt_is σ p n i kd v tm 9 2 = i := rfl
  unfold f_X3_take f_X3_take_u0
  rw [e1, e2, e0, mt_is_k p9]
  refine fun _ _ => ⟨fun c => absurd c (by omega), fun _ => ⟨tx, fun _ => ⟨i0, by omega, fun _ => ?_⟩⟩⟩
  unfold f_X3_take_u25
  rw [e2]
  refine fun _ => ⟨mt_I (by omega) (by omega), fun σ3 g3 => ?_⟩
  rw [g3, mt_is_2]
  exact k
theorem s_readTimes3 {Q : ml_St → Prop} {σ : ml_St} {p n i kd v tm : Int} (tx : ml_tx p) (p9 : p ≠ 9) (i0 : 0 ≤ i) (n1 : n ≤ 100) (g : mt_tf (σ p) n i = 0) (s : i < n ∧ σ p i = 42) (k : Q (mt_is σ p n (mt_tn (σ p) n i) kd v (mt_tm (σ p) n i))) : f_X3_readTimes (mt_is σ p n i kd v tm) Q := by
  obtain ⟨m, m1, m2, e1, e2, e3, e4, e5⟩ := mt_tf_0 i0 g s
  rw [e1, e3] at k
  have f0 : ∀ i tm, mt_is σ p n i kd v tm 9 0 = p := fun _ _ => rfl
  have f1 : ∀ i tm, mt_is σ p n i kd v tm 9 1 = n := fun _ _ => rfl
  have f2 : ∀ i tm, mt_is σ p n i kd v tm 9 2 = i := fun _ _ => rfl
  have f5 : ∀ i tm, mt_is σ p n i kd v tm 9 5 = tm := fun _ _ => rfl
  have L : ∀ (N q : Nat), q ≤ m → m - q < N → f_X3_readTimes_u15 Q (f_X3_readTimes_u78 Q) N (mt_is σ p n (i + 1 + q) kd v (mt_vl (σ p) (i + 1) q)) := by
    intro N
    induction N with
    | zero => intro q hq hN; omega
    | succ N ih =>
      intro q hq hN
      have r := mt_vl_r q (fun k hk => e4 k (by omega))
      have l : (10 : Nat) ^ q ≤ 10 ^ 9 := Nat.pow_le_pow_right (by omega) (by omega)
      unfold f_X3_readTimes_u15
      rw [f1, f2, f0, mt_is_k p9]
      by_cases z : q = m
      · subst z
        refine fun _ _ => ⟨fun _ => k, fun c => ⟨tx, fun _ => ⟨by omega, by omega, fun _ => s_dig2 (fun c2 => absurd c2 (e5 (by omega))) (fun _ _ => ⟨fun _ => k, fun c => absurd rfl c⟩)⟩⟩⟩
      · have d := e4 q (by omega)
        refine fun _ _ => ⟨fun c => absurd c (by omega), fun c => ⟨tx, fun _ => ⟨by omega, by omega, fun _ => s_dig2 (fun _ => ?_) (fun c2 => absurd d c2)⟩⟩⟩
        refine fun _ => ⟨fun c => absurd c (by omega), fun _ => ?_⟩
        have r1 := mt_vl_r (q + 1) (fun k hk => e4 k (by omega))
        have l1 : (10 : Nat) ^ (q + 1) ≤ 10 ^ 9 := Nat.pow_le_pow_right (by omega) (by omega)
        have ev : mt_vl (σ p) (i + 1) (q + 1) = 10 * mt_vl (σ p) (i + 1) q + (σ p (i + 1 + q) - 48) := rfl
        rw [f5, f0, f2, mt_is_k p9]
        have b1 : I32 (mt_vl (σ p) (i + 1) q * 10) := ⟨by omega, by omega⟩
        refine fun _ => ⟨b1, tx, fun _ => ⟨by omega, by omega, fun _ => ⟨⟨by omega, by omega⟩, ⟨by omega, by omega⟩, fun σ16 g16 => ?_⟩⟩⟩
        rw [g16, mt_is_5, f2]
        refine fun _ => ⟨mt_I (by omega) (by omega), fun σ19 g19 => ?_⟩
        rw [g19, mt_is_2]
        have := ih (q + 1) (by omega) (by omega)
        rw [ev] at this
        rw [show mt_vl (σ p) (i + 1) q * 10 + σ p (i + 1 + q) - 48 = 10 * mt_vl (σ p) (i + 1) q + (σ p (i + 1 + q) - 48) by omega, show i + 1 + (q : Int) + 1 = i + 1 + ((q + 1 : Nat) : Int) by omega]
        exact this
  unfold f_X3_readTimes f_X3_readTimes_u0
  intro σ1 g1
  rw [g1, mt_is_5, f2]
  refine fun _ => ⟨mt_I (by omega) (by omega), fun σ4 g4 => ⟨20, ?_⟩⟩
  rw [g4, mt_is_2]
  have := L 20 0 (by omega) (by omega)
  rw [Int.natCast_zero, Int.add_zero] at this
  exact this
/-- behind an item -/
theorem s_step108 {Q : Int → ml_St → Prop} {σ : ml_St} {p n i kd v : Int} (tx : ml_tx p) (p9 : p ≠ 9) (i0 : 0 ≤ i) (i1 : i ≤ n) (n1 : n ≤ 100) (g : mt_tf (σ p) n i = 0) (k : Q 1 (mt_is σ p n (mt_tn (σ p) n i) kd v (mt_tm (σ p) n i))) : f_X3_step_u108 Q (mt_is σ p n i kd v 1) := by
  have e0 : mt_is σ p n i kd v 1 9 0 = p := rfl
  have e1 : mt_is σ p n i kd v 1 9 1 = n := rfl
  have e2 : mt_is σ p n i kd v 1 9 2 = i := rfl
  unfold f_X3_step_u108
  rw [e1, e2, e0, mt_is_k p9]
  have no : ¬ (i < n ∧ σ p i = 42) → f_X3_step_u137 Q (mt_is σ p n i kd v 1) := by
    intro c
    unfold f_X3_step_u137
    unfold mt_tn mt_tm at k
    rw [if_neg c, if_neg c] at k
    exact k
  refine fun _ _ => ⟨fun c => no (by omega), fun c => ⟨tx, fun _ => ⟨i0, by omega, fun _ => ⟨fun c2 => no (fun z => c2 z.2), fun c2 => s_readTimes3 tx p9 i0 n1 g ⟨by omega, c2⟩ ?_⟩⟩⟩⟩
  unfold f_X3_step_u137
  exact k
theorem s_step {Q : Int → ml_St → Prop} {σ : ml_St} {p n i kd v tm h w d need : Int} {F : Nat} (tx : ml_tx p) (p9 : p ≠ 9) (i0 : 0 ≤ i) (i1 : i ≤ n) (n1 : n ≤ 100) (h5 : h ≤ 5) (g : mt_gr (σ p) n h w (F + 1) i d need = 0)
    (kE : n ≤ i → need = 0 → d = 0 → Q 0 (mt_is σ p n i kd v tm))
    (kO : i < n → σ p i = 40 → d ≠ 6 → mt_gr (σ p) n h w F (i + 1) (d + 1) 1 = 0 → Q 1 (mt_is σ p n (i + 1) 0 v 1))
    (kC : i < n → σ p i = 41 → d ≠ 0 → need = 0 → mt_tf (σ p) n (i + 1) = 0 → mt_gr (σ p) n h w F (mt_tn (σ p) n (i + 1)) (d - 1) 0 = 0 → Q 1 (mt_is σ p n (mt_tn (σ p) n (i + 1)) 1 v (mt_tm (σ p) n (i + 1))))
    (kS : i + 1 < n → (σ p i = 120 ∨ σ p i = 117) → 48 ≤ σ p (i + 1) → σ p (i + 1) - 48 ≤ h - 2 → mt_tf (σ p) n (i + 2) = 0 → mt_gr (σ p) n h w F (mt_tn (σ p) n (i + 2)) d 0 = 0 → Q 1 (mt_is σ p n (mt_tn (σ p) n (i + 2)) 2 (2 * (σ p (i + 1) - 48) + (if σ p i = 117 then 1 else 0)) (mt_tm (σ p) n (i + 2))))
    (kL : i < n → 65 ≤ σ p i → σ p i < 81 → σ p i - 65 < w → mt_tf (σ p) n (i + 1) = 0 → mt_gr (σ p) n h w F (mt_tn (σ p) n (i + 1)) d 0 = 0 → Q 1 (mt_is σ p n (mt_tn (σ p) n (i + 1)) 3 (σ p i - 65) (mt_tm (σ p) n (i + 1)))) : f_X3_step (mt_is σ p n i kd v tm) Q := by
  have e1 : mt_is σ p n i kd v tm 9 1 = n := rfl
  have e2 : mt_is σ p n i kd v tm 9 2 = i := rfl
  unfold f_X3_step f_X3_step_u0
  rw [e1, e2]
  refine fun _ _ => ⟨fun c => s_take tx p9 i0 c n1 (fun _ σ5 g5 => ?_), fun c => ?_⟩
  · rw [mt_is_5] at g5
    subst g5
    have SG : (σ p i = 120 ∨ σ p i = 117) → f_X3_step_u62 Q (mt_is σ p n (i + 1) kd v 1) (σ p i) := by
      intro hc
      rcases mt_gr_c (by omega) i0 g with z | z | z | z | z
      · omega
      · omega
      · omega
      · obtain ⟨z1, z2, z3, z4, z5, z6, z7, z8⟩ := z
        unfold f_X3_step_u62
        intro σ1 g1
        rw [g1, mt_is_3]
        refine s_take tx p9 (by omega) z3 n1 (fun _ => ⟨mt_I (by omega) (by omega), mt_I (by omega) (by omega), fun c => ?_, fun c => ?_⟩)
        · unfold f_X3_step_u88
          refine ⟨mt_I (by omega) (by omega), fun σ2 g2 => ?_⟩
          rw [g2, mt_is_4, show i + 1 + 1 = i + 2 by omega]
          refine s_step108 tx p9 (by omega) (by omega) n1 z7 ?_
          have := kS z3 z2 z4 z6 z7 z8
          rw [if_neg c] at this; exact this
        · unfold f_X3_step_u88
          refine ⟨mt_I (by omega) (by omega), fun σ2 g2 => ?_⟩
          rw [g2, mt_is_4, show i + 1 + 1 = i + 2 by omega]
          refine s_step108 tx p9 (by omega) (by omega) n1 z7 ?_
          have := kS z3 z2 z4 z6 z7 z8
          rw [if_pos c] at this; exact this
      · omega
    refine ⟨fun c40 => ⟨fun c41 => ⟨fun c120 => SG (Or.inl c120), fun c120 => ⟨fun c117 σ10 g10 => ?_, fun c117 => SG (Or.inr c117)⟩⟩, fun c41 σ13 g13 => ?_⟩, fun c40 σ14 g14 => ?_⟩
    · rw [mt_is_3] at g10
      subst g10
      rcases mt_gr_c (by omega) i0 g with z | z | z | z | z
      · omega
      · omega
      · omega
      · omega
      · obtain ⟨z1, z2, z3, z4, z5, z6⟩ := z
        refine ⟨mt_I (by omega) (by omega), fun σ12 g12 => ?_⟩
        rw [g12, mt_is_4]
        exact s_step108 tx p9 (by omega) (by omega) n1 z5 (kL z1 z2 z3 z4 z5 z6)
    · rw [mt_is_3] at g13
      subst g13
      rcases mt_gr_c (by omega) i0 g with z | z | z | z | z
      · omega
      · omega
      · obtain ⟨z1, z2, z3, z4, z5, z6⟩ := z
        exact s_step108 tx p9 (by omega) (by omega) n1 z5 (kC z1 z2 z3 z4 z5 z6)
      · omega
      · omega
    · rw [mt_is_3] at g14
      subst g14
      rcases mt_gr_c (by omega) i0 g with z | z | z | z | z
      · omega
      · exact kO z.1 z.2.1 z.2.2.1 z.2.2.2
      · omega
      · omega
      · omega
  · rcases mt_gr_c (by omega) i0 g with z | z | z | z | z
    · exact kE z.1 z.2.1 z.2.2
    · omega
    · omega
    · omega
    · omega
/-! the class's Loom: what a TEXT makes -/
def mt_rp (h : Int) : Nat → Int → (Int → Int) → (Int → Int) → (Int → Int)
  | 0, _, it, _ => it
  | F + 1, r, it, bs => if r ≤ 0 then it else mt_rp h F (r / 2) (if r % 2 = 0 then it else mt_both h it bs) (mt_both h bs bs)
def mt_rep (h times : Int) (it : Int → Int) : Int → Int := if times = 1 then it else mt_rp h 40 times (mt_str h) it
def mt_set (S : Int → Int → Int) (d : Int) (v : Int → Int) : Int → Int → Int := fun k => if k = d then v else S k
def mt_we (t : Int → Int) (n h : Int) (mk : Int → Int → Int) : Nat → Int → Int → (Int → Int → Int) → (Int → Int)
  | 0, _, _, S => S 0
  | F + 1, i, d, S =>
    if n ≤ i then S 0
    else if t i = 40 then mt_we t n h mk F (i + 1) (d + 1) (mt_set S (d + 1) (mt_str h))
    else if t i = 41 then mt_we t n h mk F (mt_tn t n (i + 1)) (d - 1) (mt_set S (d - 1) (mt_both h (S (d - 1)) (mt_rep h (mt_tm t n (i + 1)) (S d))))
    else if t i = 120 ∨ t i = 117 then mt_we t n h mk F (mt_tn t n (i + 2)) d (mt_set S d (mt_both h (S d) (mt_rep h (mt_tm t n (i + 2)) (mt_sgn h (t (i + 1) - 48) (if t i = 117 then 1 else 0)))))
    else mt_we t n h mk F (mt_tn t n (i + 1)) d (mt_set S d (mt_both h (S d) (mt_rep h (mt_tm t n (i + 1)) (mk (t i - 65)))))
def mt_wo (t : Int → Int) (n h : Int) (mk : Int → Int → Int) : Int → Int := mt_we t n h mk (n.toNat + 1) 0 0 (fun _ => mt_str h)
theorem mt_rp_M {h : Int} (h5 : h ≤ 5) : ∀ (F : Nat) (r : Int) (it bs : Int → Int), mt_M h it → mt_M h bs → mt_M h (mt_rp h F r it bs) := by
  intro F
  induction F with
  | zero => intro r it bs hi _; exact hi
  | succ F ih =>
    intro r it bs hi hb
    unfold mt_rp
    split
    · exact hi
    · refine ih _ _ _ ?_ (mt_both_M h5 hb hb)
      split
      · exact hi
      · exact mt_both_M h5 hi hb
theorem mt_rep_M {h times : Int} {it : Int → Int} (h5 : h ≤ 5) (hi : mt_M h it) : mt_M h (mt_rep h times it) := by
  unfold mt_rep
  split
  · exact hi
  · exact mt_rp_M h5 _ _ _ _ (mt_str_M h5) hi
def mt_f3 (σ σ' : ml_St) : Prop := ∀ j, (j < 13 ∨ 21 < j) → σ' j = σ j
theorem mt_f3_t {σ σ1 σ2 : ml_St} (a : mt_f3 σ σ1) (b : mt_f3 σ1 σ2) : mt_f3 σ σ2 := fun j hj => by rw [b j hj, a j hj]
theorem mt_f3_fr {k : Int} {σ σ' : ml_St} (h1 : 13 ≤ k) (h2 : k ≤ 19) (f : mt_fr k σ σ') : mt_f3 σ σ' := fun j hj => f j (by omega) (by omega) (by omega)
theorem s_repeatItem {Q : ml_St → Prop} {times h : Int} {σ : ml_St} {it : Int → Int} (h2 : 2 ≤ h) (h5 : h ≤ 5) (t0 : 0 ≤ times) (t1 : times < 1000000000) (w : mt_wv h σ 13 it) (hi : mt_M h it) (k : ∀ σ', mt_f3 σ σ' → mt_wv h σ' 13 (mt_rep h times it) → Q σ') : f_X4_repeatItem σ times h Q := by
  have L : ∀ (N F : Nat) (r : Int) (it bs : Int → Int) (σ1 : ml_St), 0 ≤ r → r < ((2 ^ F : Nat) : Int) → F + 1 < N → mt_f3 σ σ1 → mt_wv h σ1 13 it → mt_wv h σ1 16 bs → mt_M h it → mt_M h bs → r < 1000000000 → (∀ σ', mt_f3 σ σ' → mt_wv h σ' 13 (mt_rp h (F + 1) r it bs) → Q σ') → f_X4_repeatItem_u27 Q (f_X4_repeatItem_u98 Q) N σ1 h r := by
    intro N
    induction N with
    | zero => intro F r it bs σ1 _ _ hN; omega
    | succ N ih =>
      intro F r it bs σ1 r0 r1 hN f w1 w2 hi hb r9 kk
      unfold f_X4_repeatItem_u27
      unfold mt_rp at kk
      refine ⟨fun c => ?_, fun c => ?_⟩
      · rw [if_pos c] at kk
        unfold f_X4_repeatItem_u98
        exact kk σ1 f w1
      rw [if_neg c] at kk
      have tm : Int.tmod r 2 = r % 2 := Int.tmod_eq_emod_of_nonneg r0
      have td : Int.tdiv r 2 = r / 2 := Int.tdiv_eq_ediv_of_nonneg r0
      obtain ⟨F, rfl⟩ : ∃ F', F = F' + 1 := ⟨F - 1, by
        cases F with
        | zero => have : ((2 ^ 0 : Nat) : Int) = 1 := rfl; omega
        | succ F => omega⟩
      have p2 : ((2 ^ (F + 1) : Nat) : Int) = 2 * ((2 ^ F : Nat) : Int) := by rw [Nat.pow_succ, Int.natCast_mul]; omega
      have go : ∀ (it' : Int → Int) (σ2 : ml_St), mt_f3 σ σ2 → mt_wv h σ2 13 it' → mt_wv h σ2 16 bs → mt_M h it' → (∀ σ', mt_f3 σ σ' → mt_wv h σ' 13 (mt_rp h (F + 1) (r / 2) it' (mt_both h bs bs)) → Q σ') → f_X4_repeatItem_u64 Q (f_X4_repeatItem_u27 Q (f_X4_repeatItem_u98 Q) N) σ2 h r := by
        intro it' σ2 f2 wi wb hi' kk
        unfold f_X4_repeatItem_u64
        refine s_beBoth h2 h5 (by omega) (by omega) hb hb wb wb (fun σ3 f3 w3 => ?_)
        refine s_beLike h5 (by omega) w3 (fun σ4 f4 w4 => ⟨by omega, ?_, fun y4 e4 => ?_⟩)
        · rw [td]; exact ⟨by omega, by omega⟩
        · rw [td] at e4
          subst e4
          refine ih F (r / 2) it' (mt_both h bs bs) σ4 (by omega) (by omega) (by omega) ?_ ?_ w4 hi' (mt_both_M h5 hb hb) (by omega) kk
          · exact mt_f3_t f2 (mt_f3_t (mt_f3_fr (by omega) (by omega) f3) (mt_f3_fr (by omega) (by omega) f4))
          · exact mt_wv_fr f4 (by omega) (mt_wv_fr f3 (by omega) wi)
      rw [tm]
      refine ⟨by omega, ⟨by omega, by omega⟩, fun d => ?_, fun d => ?_⟩
      · rw [if_pos d] at kk
        exact go it σ1 f w1 w2 hi kk
      · rw [if_neg d] at kk
        refine s_beBoth h2 h5 (by omega) (by omega) hi hb w1 w2 (fun σ4 f4 w4 => ?_)
        refine s_beLike h5 (by omega) w4 (fun σ5 f5 w5 => ?_)
        refine go (mt_both h it bs) σ5 ?_ w5 ?_ (mt_both_M h5 hi hb) kk
        · exact mt_f3_t f (mt_f3_t (mt_f3_fr (by omega) (by omega) f4) (mt_f3_fr (by omega) (by omega) f5))
        · exact mt_wv_fr f5 (by omega) (mt_wv_fr f4 (by omega) w2)
  unfold f_X4_repeatItem f_X4_repeatItem_u0
  unfold mt_rep at k
  refine ⟨fun c => ?_, fun c => ?_⟩
  · rw [if_neg c] at k
    refine s_beLike h5 (by omega) w (fun σ2 f2 w2 => ?_)
    refine s_beStraight h2 h5 (fun σ3 f3 w3 => ⟨50, ?_⟩)
    have w16 := mt_wv_fr f3 (by omega) w2
    have l : ((2 ^ 39 : Nat) : Int) = 549755813888 := rfl
    exact L 50 39 times (mt_str h) it σ3 t0 (by omega) (by omega) (mt_f3_t (mt_f3_fr (by omega) (by omega) f2) (mt_f3_fr (by omega) (by omega) f3)) w3 w16 (mt_str_M h5) hi t1 k
  · rw [if_pos c] at k
    exact k σ (fun _ _ => rfl) w
theorem mt_is_eta {σ : ml_St} {p n i : Int} (e0 : σ 9 0 = p) (e1 : σ 9 1 = n) (e2 : σ 9 2 = i) : σ = mt_is σ p n i (σ 9 3) (σ 9 4) (σ 9 5) := by
  funext a b
  unfold mt_is
  by_cases q : a = 9
  · subst q
    by_cases r0 : b = 0
    · subst r0; simp [e0]
    by_cases r1 : b = 1
    · subst r1; simp [e1]
    by_cases r2 : b = 2
    · subst r2; simp [e2]
    by_cases r3 : b = 3
    · subst r3; simp
    by_cases r4 : b = 4
    · subst r4; simp
    by_cases r5 : b = 5
    · subst r5; simp
    simp [r0, r1, r2, r3, r4, r5]
  · simp [q]
def mt_fw (σ σ' : ml_St) : Prop := ∀ j, j ≠ 9 → (j < 13 ∨ 45 < j) → σ' j = σ j
theorem mt_fw_t {σ σ1 σ2 : ml_St} (a : mt_fw σ σ1) (b : mt_fw σ1 σ2) : mt_fw σ σ2 := fun j h1 hj => by rw [b j h1 hj, a j h1 hj]
theorem mt_fw_fr {k : Int} {σ σ' : ml_St} (h1 : 13 ≤ k) (h2 : k ≤ 43) (f : mt_fr k σ σ') : mt_fw σ σ' := fun j _ hj => f j (by omega) (by omega) (by omega)
theorem mt_fw_3 {σ σ' : ml_St} (f : mt_f3 σ σ') : mt_fw σ σ' := fun j _ hj => f j (by omega)
theorem mt_fw_is {σ : ml_St} {p n i kd v tm : Int} : mt_fw σ (mt_is σ p n i kd v tm) := fun j h1 _ => mt_is_k h1
theorem mt_wv_eq {h k : Int} {σ σ' : ml_St} {v : Int → Int} (e0 : σ' k = σ k) (e1 : σ' (k + 1) = σ (k + 1)) (e2 : σ' (k + 2) = σ (k + 2)) (w : mt_wv h σ k v) : mt_wv h σ' k v := by
  unfold mt_wv; rw [e0, e1, e2]; exact w
theorem s_weave {Q : ml_St → Prop} {p out n h w : Int} {σ0 : ml_St} {mk : Int → Int → Int} (tx : ml_tx p) (p0 : 114 < p) (o0 : 45 < out) (n0 : 0 ≤ n) (n1 : n ≤ 100) (h2 : 2 ≤ h) (h5 : h ≤ 5) (w0 : 0 ≤ w) (w1 : w ≤ 16) (g : mt_gr (σ0 p) n h w (n.toNat + 1) 0 0 1 = 0) (wm : ∀ v, 0 ≤ v → v < w → mt_wv h σ0 (121 + 6 * v) (mk v) ∧ mt_M h (mk v))
    (k : ∀ σ', (∀ j, j ≠ 9 → (j < 13 ∨ 45 < j) → j ≠ out → j ≠ out + 1 → j ≠ out + 2 → σ' j = σ0 j) → mt_wv h σ' out (mt_wo (σ0 p) n h mk) → mt_M h (mt_wo (σ0 p) n h mk) → Q σ') : f_X4_weave σ0 p out n h Q := by
  have KE : ∀ (σ : ml_St), mt_fw σ0 σ → mt_wv h σ 25 (mt_wo (σ0 p) n h mk) → mt_M h (mt_wo (σ0 p) n h mk) → f_X4_weave_u218 Q p out σ := by
    intro σ f wv hM
    unfold f_X4_weave_u218
    refine ⟨by omega, by omega, ?_⟩
    rw [show (25 : Int) + 3 * 0 = 25 by omega]
    refine s_beLike h5 (by omega) wv (fun σ' f' w' => k σ' (fun j h1 h2 h3 h4 h6 => ?_) w' hM)
    rw [f' j h3 h4 h6, f j h1 h2]
  have L : ∀ (F N : Nat) (i d need x7 : Int) (S : Int → Int → Int) (σ : ml_St), σ 9 0 = p → σ 9 1 = n → σ 9 2 = i → mt_fw σ0 σ → (∀ k, 0 ≤ k → k ≤ d → mt_wv h σ (25 + 3 * k) (S k) ∧ mt_M h (S k)) → 0 ≤ i → i ≤ n → 0 ≤ d → d ≤ 6 → 0 ≤ x7 → x7 ≤ i → n - i < F → n - x7 < N → mt_gr (σ0 p) n h w F i d need = 0 →
      (∀ (σ : ml_St), mt_fw σ0 σ → mt_wv h σ 25 (mt_we (σ0 p) n h mk F i d S) → mt_M h (mt_we (σ0 p) n h mk F i d S) → f_X4_weave_u218 Q p out σ) → f_X4_weave_u26 Q (f_X4_weave_u218 Q p out) p out N σ n h d x7 := by
    intro F
    induction F with
    | zero => intro N i d need x7 S σ _ _ _ _ _ i0 i1 d0 d6 x0 x1 hF; omega
    | succ F ih =>
      intro N i d need x7 S σ e0 e1 e2 f wS i0 i1 d0 d6 x0 x1 hF hN g kk
      obtain ⟨N, rfl⟩ : ∃ N', N = N' + 1 := ⟨N - 1, by omega⟩
      have ep : σ p = σ0 p := f p (by omega) (by omega)
      have S0 := wS 0 (by omega) d0
      rw [show (25 : Int) + 3 * 0 = 25 by omega] at S0
      unfold f_X4_weave_u26
      unfold mt_we at kk
      refine ⟨fun c => ?_, fun c => ?_⟩
      · rw [if_pos (by omega)] at kk
        exact kk σ f S0.1 S0.2
      -- behind an item: times, the product, on
      have IT : ∀ (i' d' : Int) (it : Int → Int) (σ2 : ml_St) (S' : Int → Int → Int), σ2 9 0 = p → σ2 9 1 = n → σ2 9 2 = i' → 0 ≤ σ2 9 5 → σ2 9 5 < 1000000000 → mt_fw σ0 σ2 → mt_wv h σ2 13 it → mt_M h it → (∀ k, 0 ≤ k → k ≤ d' → mt_wv h σ2 (25 + 3 * k) (S k) ∧ mt_M h (S k)) → i < i' → i' ≤ n → 0 ≤ d' → d' ≤ 6 → mt_gr (σ0 p) n h w F i' d' 0 = 0 → S' = mt_set S d' (mt_both h (S d') (mt_rep h (σ2 9 5) it)) →
          (∀ (σ : ml_St), mt_fw σ0 σ → mt_wv h σ 25 (mt_we (σ0 p) n h mk F i' d' S') → mt_M h (mt_we (σ0 p) n h mk F i' d' S') → f_X4_weave_u218 Q p out σ) → f_X4_weave_u165 Q (f_X4_weave_u26 Q (f_X4_weave_u218 Q p out) p out N) p out σ2 n h d' x7 := by
        intro i' d' it σ2 S' e0 e1 e2 t0 t1 f2 wi hi wS2 ii' in' d0' d6' g' hS kk
        unfold f_X4_weave_u165
        refine fun _ => s_repeatItem h2 h5 t0 t1 wi hi (fun σ3 f3 w3 => ⟨d0', by omega, ?_⟩)
        have wd : mt_wv h σ3 (25 + 3 * d') (S d') := mt_wv_eq (f3 _ (by omega)) (f3 _ (by omega)) (f3 _ (by omega)) (wS2 d' d0' (by omega)).1
        have hd := (wS2 d' d0' (by omega)).2
        refine s_beBoth h2 h5 (by omega) (by omega) hd (mt_rep_M h5 hi) wd w3 (fun σ4 f4 w4 => ⟨d0', by omega, ?_⟩)
        refine s_beLike h5 (by omega) w4 (fun σ6 f6 w6 => ?_)
        unfold f_X4_weave_u212
        refine ⟨mt_I (by omega) (by omega), fun y1 ey1 => ?_⟩
        subst ey1
        have e9 : σ6 9 = σ2 9 := by rw [f6 9 (by omega) (by omega) (by omega), f4 9 (by omega) (by omega) (by omega), f3 9 (by omega)]
        refine ih N i' d' 0 (x7 + 1) S' σ6 (by rw [e9, e0]) (by rw [e9, e1]) (by rw [e9, e2]) ?_ ?_ (by omega) in' d0' d6' (by omega) (by omega) (by omega) (by omega) g' kk
        · exact mt_fw_t f2 (mt_fw_t (mt_fw_3 f3) (mt_fw_t (mt_fw_fr (by omega) (by omega) f4) (mt_fw_fr (by omega) (by omega) f6)))
        · intro k k0 k1
          rw [hS]
          unfold mt_set
          by_cases q : k = d'
          · rw [if_pos q, q]; exact ⟨w6, mt_both_M h5 hd (mt_rep_M h5 hi)⟩
          · rw [if_neg q]
            refine ⟨?_, (wS2 k k0 k1).2⟩
            refine mt_wv_fr f6 (by omega) (mt_wv_fr f4 (by omega) ?_)
            exact mt_wv_eq (f3 _ (by omega)) (f3 _ (by omega)) (f3 _ (by omega)) (wS2 k k0 k1).1
      have eta := mt_is_eta e0 e1 e2
      have f3 : ∀ (i kd v tm : Int), mt_is σ p n i kd v tm 9 3 = kd := fun _ _ _ _ => rfl
      have f4 : ∀ (i kd v tm : Int), mt_is σ p n i kd v tm 9 4 = v := fun _ _ _ _ => rfl
      have f5 : ∀ (i kd v tm : Int), mt_is σ p n i kd v tm 9 5 = tm := fun _ _ _ _ => rfl
      have fI : ∀ (i kd v tm : Int), mt_fw σ0 (mt_is σ p n i kd v tm) := fun i kd v tm => mt_fw_t f mt_fw_is
      have wI : ∀ (i kd v tm k : Int) (x : Int → Int), 9 < k → mt_wv h σ k x → mt_wv h (mt_is σ p n i kd v tm) k x := fun i kd v tm k x hk wx => mt_wv_eq (mt_is_k (by omega)) (mt_is_k (by omega)) (mt_is_k (by omega)) wx
      rw [eta]
      rw [← ep] at g kk IT
      refine s_step (h := h) (w := w) (d := d) (need := need) (F := F) tx (by omega) i0 i1 n1 h5 g ?_ ?_ ?_ ?_ ?_
      · intro z _ _ _
        rw [if_pos z] at kk
        exact ⟨fun _ => kk _ (fI _ _ _ _) (wI _ _ _ _ _ _ (by omega) S0.1) S0.2, fun c => absurd rfl c⟩
      · intro z1 z2 z3 z4
        rw [if_neg (by omega), if_pos z2] at kk
        refine fun _ => ⟨fun c => absurd c (by omega), fun _ => ?_⟩
        rw [f3]
        refine fun _ => ⟨fun c => absurd rfl c, fun _ => ⟨mt_I (by omega) (by omega), fun y20 e20 => ?_⟩⟩
        have e20 : y20 = d + 1 := by omega
        subst e20
        refine ⟨by omega, by omega, s_beStraight h2 h5 (fun σ22 f22 w22 => ?_)⟩
        unfold f_X4_weave_u212
        refine ⟨mt_I (by omega) (by omega), fun y1 ey1 => ?_⟩
        subst ey1
        have e9 : σ22 9 = mt_is σ p n (i + 1) 0 (σ 9 4) 1 9 := f22 9 (by omega) (by omega) (by omega)
        rw [ep] at z4 kk
        refine ih N (i + 1) (d + 1) 1 (x7 + 1) _ σ22 (by rw [e9]; rfl) (by rw [e9]; rfl) (by rw [e9]; rfl) ?_ ?_ (by omega) (by omega) (by omega) (by omega) (by omega) (by omega) (by omega) (by omega) z4 kk
        · exact mt_fw_t (fI _ _ _ _) (mt_fw_fr (by omega) (by omega) f22)
        · intro k k0 k1
          unfold mt_set
          by_cases q : k = d + 1
          · rw [if_pos q, q]; exact ⟨w22, mt_str_M h5⟩
          · rw [if_neg q]
            exact ⟨mt_wv_fr f22 (by omega) (wI _ _ _ _ _ _ (by omega) (wS k k0 (by omega)).1), (wS k k0 (by omega)).2⟩
      · intro z1 z2 z3 z4 z5 z6
        rw [if_neg (by omega), if_neg (by omega), if_pos z2] at kk
        refine fun _ => ⟨fun c => absurd c (by omega), fun _ => ?_⟩
        rw [f3]
        refine fun _ => ⟨fun _ _ => ⟨fun c => absurd rfl c, fun _ => ⟨d0, by omega, ?_⟩⟩, fun c => absurd c (by omega)⟩
        have r := mt_tn_r (t := σ p) (n := n) (i := i + 1) (by omega)
        have rt := mt_tm_r (t := σ p) (n := n) (i := i + 1) (by omega) z5
        refine s_beLike h5 (by omega) (wI _ _ _ _ _ _ (by omega) (wS d d0 (by omega)).1) (fun σ16 f16 w16 => ⟨mt_I (by omega) (by omega), fun y18 e18 => ?_⟩)
        have e18 : y18 = d - 1 := by omega
        subst e18
        have e9 : σ16 9 = mt_is σ p n (mt_tn (σ p) n (i + 1)) 1 (σ 9 4) (mt_tm (σ p) n (i + 1)) 9 := f16 9 (by omega) (by omega) (by omega)
        have t5 : σ16 9 5 = mt_tm (σ p) n (i + 1) := by rw [e9]; rfl
        refine IT (mt_tn (σ p) n (i + 1)) (d - 1) (S d) σ16 _ (by rw [e9]; rfl) (by rw [e9]; rfl) (by rw [e9]; rfl) (by rw [t5]; exact rt.1) (by rw [t5]; exact rt.2) (mt_fw_t (fI _ _ _ _) (mt_fw_fr (by omega) (by omega) f16)) w16 (wS d d0 (by omega)).2 ?_ (by omega) r.2 (by omega) (by omega) z6 (by rw [t5]) kk
        intro k k0 k1
        exact ⟨mt_wv_fr f16 (by omega) (wI _ _ _ _ _ _ (by omega) (wS k k0 (by omega)).1), (wS k k0 (by omega)).2⟩
      · intro z1 z2 z3 z4 z5 z6
        rw [if_neg (by omega), if_neg (by omega), if_neg (by omega), if_pos z2] at kk
        refine fun _ => ⟨fun c => absurd c (by omega), fun _ => ?_⟩
        rw [f3]
        refine fun _ => ⟨fun _ _ => ⟨fun _ _ => ⟨fun c => absurd rfl c, fun _ => ?_⟩, fun c => absurd c (by omega)⟩, fun c => absurd c (by omega)⟩
        rw [f4]
        have r := mt_tn_r (t := σ p) (n := n) (i := i + 2) (by omega)
        have rt := mt_tm_r (t := σ p) (n := n) (i := i + 2) (by omega) z5
        have dv : (2 * (σ p (i + 1) - 48) + (if σ p i = 117 then 1 else 0)) / 2 = σ p (i + 1) - 48 := by split <;> omega
        have md : (2 * (σ p (i + 1) - 48) + (if σ p i = 117 then 1 else 0)) % 2 = if σ p i = 117 then 1 else 0 := by split <;> omega
        refine fun _ => s_beSign h2 h5 (by split <;> omega) (by rw [dv]; omega) (fun σ14 f14 w14 => ?_)
        rw [dv, md] at w14
        have e9 : σ14 9 = mt_is σ p n (mt_tn (σ p) n (i + 2)) 2 (2 * (σ p (i + 1) - 48) + (if σ p i = 117 then 1 else 0)) (mt_tm (σ p) n (i + 2)) 9 := f14 9 (by omega) (by omega) (by omega)
        have t5 : σ14 9 5 = mt_tm (σ p) n (i + 2) := by rw [e9]; rfl
        refine IT (mt_tn (σ p) n (i + 2)) d _ σ14 _ (by rw [e9]; rfl) (by rw [e9]; rfl) (by rw [e9]; rfl) (by rw [t5]; exact rt.1) (by rw [t5]; exact rt.2) (mt_fw_t (fI _ _ _ _) (mt_fw_fr (by omega) (by omega) f14)) w14 (mt_sgn_M h5 (by omega) (by omega)) ?_ (by omega) r.2 d0 d6 z6 (by rw [t5]) kk
        intro k k0 k1
        exact ⟨mt_wv_fr f14 (by omega) (wI _ _ _ _ _ _ (by omega) (wS k k0 (by omega)).1), (wS k k0 (by omega)).2⟩
      · intro z1 z2 z3 z4 z5 z6
        rw [if_neg (by omega), if_neg (by omega), if_neg (by omega), if_neg (by omega)] at kk
        refine fun _ => ⟨fun c => absurd c (by omega), fun _ => ?_⟩
        rw [f3]
        refine fun _ => ⟨fun _ _ => ⟨fun _ _ => ⟨fun _ => ?_, fun c => absurd c (by omega)⟩, fun c => absurd c (by omega)⟩, fun c => absurd c (by omega)⟩
        rw [f4]
        have r := mt_tn_r (t := σ p) (n := n) (i := i + 1) (by omega)
        have rt := mt_tm_r (t := σ p) (n := n) (i := i + 1) (by omega) z5
        obtain ⟨m1, m2⟩ := wm (σ p i - 65) (by omega) z4
        refine fun _ => ⟨by omega, by omega, ?_⟩
        rw [show 119 + 6 * (σ p i - 65) + 2 = 121 + 6 * (σ p i - 65) by omega]
        have m3 : mt_wv h σ (121 + 6 * (σ p i - 65)) (mk (σ p i - 65)) := mt_wv_eq (f _ (by omega) (by omega)) (f _ (by omega) (by omega)) (f _ (by omega) (by omega)) m1
        refine s_beLike h5 (by omega) (wI _ _ _ _ _ _ (by omega) m3) (fun σ12 f12 w12 => ?_)
        have e9 : σ12 9 = mt_is σ p n (mt_tn (σ p) n (i + 1)) 3 (σ p i - 65) (mt_tm (σ p) n (i + 1)) 9 := f12 9 (by omega) (by omega) (by omega)
        have t5 : σ12 9 5 = mt_tm (σ p) n (i + 1) := by rw [e9]; rfl
        refine IT (mt_tn (σ p) n (i + 1)) d _ σ12 _ (by rw [e9]; rfl) (by rw [e9]; rfl) (by rw [e9]; rfl) (by rw [t5]; exact rt.1) (by rw [t5]; exact rt.2) (mt_fw_t (fI _ _ _ _) (mt_fw_fr (by omega) (by omega) f12)) w12 m2 ?_ (by omega) r.2 d0 d6 z6 (by rw [t5]) kk
        intro k k0 k1
        exact ⟨mt_wv_fr f12 (by omega) (wI _ _ _ _ _ _ (by omega) (wS k k0 (by omega)).1), (wS k k0 (by omega)).2⟩
  unfold f_X4_weave f_X4_weave_u0
  refine ⟨by omega, by omega, ?_⟩
  rw [show (25 : Int) + 3 * 0 = 25 by omega]
  refine s_beStraight h2 h5 (fun σ2 f2 w2 => s_begin ⟨n.toNat + 1, ?_⟩)
  refine L (n.toNat + 1) (n.toNat + 1) 0 0 1 0 (fun _ => mt_str h) _ rfl rfl rfl ?_ ?_ (by omega) n0 (by omega) (by omega) (by omega) (by omega) (by omega) (by omega) g KE
  · exact mt_fw_t (mt_fw_fr (by omega) (by omega) f2) mt_fw_is
  · intro k k0 k1
    have : k = 0 := by omega
    subst this
    exact ⟨mt_wv_eq (mt_is_k (by omega)) (mt_is_k (by omega)) (mt_is_k (by omega)) w2, mt_str_M h5⟩
/-! the model reads a word's TEXT; counts of signs -/
theorem ml_up_up {σ : ml_St} {k i u v : Int} : ml_up (ml_up σ k i u) k i v = ml_up σ k i v := by
  funext a b; unfold ml_up
  by_cases q : a = k ∧ b = i <;> simp [q]
theorem ml_up_id {σ : ml_St} {k i v : Int} (h : σ k i = v) : ml_up σ k i v = σ := by
  funext a b; unfold ml_up
  by_cases q : a = k ∧ b = i
  · rw [if_pos q, q.1, q.2, h]
  · rw [if_neg q]
theorem s_read {Q : Int → ml_St → Prop} {τ : ml_St} {w n i : Int} (w0 : 0 ≤ w) (w1 : w < 16) (i0 : 0 ≤ i) (n1 : n ≤ 100) (e19 : τ 215 19 = i) (e20 : τ 215 20 = w) (en : τ 219 w = n) (k : Q (mt_u (fun j => τ 218 (100 * w + j)) n i) τ) : f_X12_read τ Q := by
  unfold f_X12_read f_X12_read_u0
  rw [e19, e20, en]
  unfold mt_u at k
  refine fun _ _ => ⟨w0, w1, fun _ => ⟨fun c => ?_, fun c _ => ⟨mt_I (by omega) (by omega), fun _ => ⟨mt_I (by omega) (by omega), by omega, by omega, fun _ => ?_⟩⟩⟩⟩
  · unfold f_X12_read_u41; rw [if_neg (by omega)] at k; exact k
  · unfold f_X12_read_u41; rw [if_pos (by omega)] at k; exact k
theorem s_readNumber {Q : Int → ml_St → Prop} {τ : ml_St} {w n i : Int} {m : Nat} (w0 : 0 ≤ w) (w1 : w < 16) (i0 : 0 ≤ i) (n1 : n ≤ 100) (e20 : τ 215 20 = w) (e19 : τ 215 19 = i) (en : τ 219 w = n) (m9 : m ≤ 9) (hn : i + m ≤ n) (tI : ∀ j, 0 ≤ j → j < n → ml_I8 (τ 218 (100 * w + j))) (hd : ∀ k : Nat, k < m → 48 ≤ τ 218 (100 * w + (i + k)) ∧ τ 218 (100 * w + (i + k)) ≤ 57) (he : i + m < n → ¬ (48 ≤ τ 218 (100 * w + (i + m)) ∧ τ 218 (100 * w + (i + m)) ≤ 57))
    (k : Q (mt_vl (fun j => τ 218 (100 * w + j)) i m) (ml_up τ 215 19 (i + m))) : f_X12_readNumber τ Q := by
  have L : ∀ (N q : Nat), q ≤ m → m - q < N → f_X12_readNumber_u2 Q (f_X12_readNumber_u38 Q) N (ml_up τ 215 19 (i + q)) (mt_vl (fun j => τ 218 (100 * w + j)) i q) := by
    intro N
    induction N with
    | zero => intro q hq hN; omega
    | succ N ih =>
      intro q hq hN
      have f19 : ml_up τ 215 19 (i + q) 215 19 = i + q := ml_up_same _ _ _ _
      have f20 : ml_up τ 215 19 (i + q) 215 20 = w := by rw [ml_up_i (by omega), e20]
      have fn : ml_up τ 215 19 (i + q) 219 w = n := by rw [ml_up_k (by omega), en]
      have f218 : ml_up τ 215 19 (i + q) 218 = τ 218 := ml_up_k (by omega)
      have uc := mt_u_c (t := fun j => τ 218 (100 * w + j)) (n := n) (i := i + q) (fun c => tI _ (by omega) c)
      unfold f_X12_readNumber_u2
      refine s_read w0 w1 (by omega) n1 f19 f20 fn ?_
      rw [f218]
      refine fun _ => s_dig12 (fun z => ?_) (fun z => ?_)
      · have hq2 : q < m := by
          rcases Nat.lt_or_ge q m with c | c
          · exact c
          · exfalso
            have : q = m := by omega
            subst this
            by_cases c2 : i + (q : Int) < n
            · refine he c2 ?_
              have : mt_c (fun j => τ 218 (100 * w + j)) n (i + q) = τ 218 (100 * w + (i + q)) := by unfold mt_c; rw [if_pos c2]
              omega
            · unfold mt_u at z; rw [if_neg c2] at z; omega
        have d := hd q hq2
        have r := mt_vl_r (t := fun j => τ 218 (100 * w + j)) (j := i) q (fun k hk => hd k (by omega))
        have l : (10 : Nat) ^ q ≤ 10 ^ 8 := Nat.pow_le_pow_right (by omega) (by omega)
        have ec : mt_c (fun j => τ 218 (100 * w + j)) n (i + q) = τ 218 (100 * w + (i + q)) := by unfold mt_c; rw [if_pos (by omega)]
        have eu : mt_u (fun j => τ 218 (100 * w + j)) n (i + q) = τ 218 (100 * w + (i + q)) := by omega
        refine fun _ => ⟨fun c => absurd c (by omega), fun _ => ⟨⟨by omega, by omega⟩, ?_⟩⟩
        refine s_read w0 w1 (by omega) n1 f19 f20 fn ?_
        rw [f218, eu]
        refine fun _ => ⟨⟨by omega, by omega⟩, ⟨by omega, by omega⟩, fun y8 e8 => ?_⟩
        rw [f19]
        refine fun _ => ⟨mt_I (by omega) (by omega), fun σ11 g11 => ?_⟩
        rw [g11, ml_up_up]
        have := ih (q + 1) (by omega) (by omega)
        have ev : mt_vl (fun j => τ 218 (100 * w + j)) i (q + 1) = 10 * mt_vl (fun j => τ 218 (100 * w + j)) i q + (τ 218 (100 * w + (i + q)) - 48) := rfl
        rw [ev] at this
        rw [e8, show 10 * mt_vl (fun j => τ 218 (100 * w + j)) i q + τ 218 (100 * w + (i + q)) - 48 = 10 * mt_vl (fun j => τ 218 (100 * w + j)) i q + (τ 218 (100 * w + (i + q)) - 48) by omega, show i + (q : Int) + 1 = i + ((q + 1 : Nat) : Int) by omega]
        exact this
      · refine fun _ => ⟨fun _ => ?_, fun c => absurd rfl c⟩
        have hq2 : q = m := by
          rcases Nat.lt_or_ge q m with c | c
          · exfalso
            have d := hd q c
            have ec : mt_c (fun j => τ 218 (100 * w + j)) n (i + q) = τ 218 (100 * w + (i + q)) := by unfold mt_c; rw [if_pos (by omega)]
            omega
          · omega
        subst hq2
        unfold f_X12_readNumber_u38
        exact k
  unfold f_X12_readNumber f_X12_readNumber_u0
  refine ⟨20, ?_⟩
  have := L 20 0 (by omega) (by omega)
  rw [Int.natCast_zero, Int.add_zero, ml_up_id e19] at this
  exact this
def mt_top : Int := 9000000000000000000
theorem s_plus {Q : Int → ml_St → Prop} {τ : ml_St} {a b x y : Int} (ha : a = min mt_top x) (hb : b = min mt_top y) (x0 : 0 ≤ x) (y0 : 0 ≤ y) (k : I64 (min mt_top (x + y)) → Q (min mt_top (x + y)) τ) : f_X12_plus τ a b Q := by
  unfold mt_top at *
  have e1 : w64 (9000000000000000000 - b) = 9000000000000000000 - b := w64_id ⟨by omega, by omega⟩
  have k := k ⟨by omega, by omega⟩
  unfold f_X12_plus f_X12_plus_u0
  rw [e1]
  refine ⟨fun c => ?_, fun c => ?_⟩
  · unfold f_X12_plus_u19
    rw [w64_id ⟨by omega, by omega⟩, show a + b = min 9000000000000000000 (x + y) by omega]
    exact k
  · unfold f_X12_plus_u19
    rw [show (9000000000000000000 : Int) = min 9000000000000000000 (x + y) by omega]
    exact k
theorem mt_mul_top {x n : Int} (x0 : 0 ≤ x) (n0 : 0 ≤ n) : min mt_top (min mt_top x * n) = min mt_top (n * x) := by
  rw [Int.mul_comm n x]
  by_cases c : x ≤ mt_top
  · rw [show min mt_top x = x by omega]
  · rw [show min mt_top x = mt_top by omega]
    by_cases n1 : n = 0
    · subst n1; simp
    · have h1 : mt_top * 1 ≤ mt_top * n := Int.mul_le_mul_of_nonneg_left (by omega) (by unfold mt_top; omega)
      have h2 : mt_top * n ≤ x * n := Int.mul_le_mul_of_nonneg_right (by omega) n0
      omega
theorem s_times {Q : Int → ml_St → Prop} {τ : ml_St} {a n x : Int} (ha : a = min mt_top x) (x0 : 0 ≤ x) (n0 : 0 ≤ n) (k : I64 (min mt_top (n * x)) → Q (min mt_top (n * x)) τ) : f_X12_times τ a n Q := by
  have e := mt_mul_top x0 n0
  rw [← ha] at e
  have k : Q (min mt_top (a * n)) τ := by
    have h0 : 0 ≤ n * x := Int.mul_nonneg n0 x0
    have := k ⟨by unfold mt_top; omega, by unfold mt_top; omega⟩
    rw [e]; exact this
  have a0 : 0 ≤ a := by unfold mt_top at ha; omega
  unfold f_X12_times f_X12_times_u0
  refine ⟨fun c => ?_, fun c => ⟨c, fun d => ?_, fun d => ?_⟩⟩
  · subst c
    unfold f_X12_times_u22 f_X12_times_u25
    rw [Int.zero_mul] at k ⊢
    rw [w64_id ⟨by omega, by omega⟩]
    have : min mt_top 0 = 0 := by unfold mt_top; omega
    rw [this] at k
    exact k
  · have e1 : Int.tdiv 9000000000000000000 a = 9000000000000000000 / a := Int.tdiv_eq_ediv_of_nonneg (by omega)
    have q0 : 0 ≤ (9000000000000000000 : Int) / a := Int.ediv_nonneg (by omega) a0
    have q1 : (9000000000000000000 : Int) / a ≤ 9000000000000000000 := Int.ediv_le_self _ (by omega)
    rw [e1, w64_id ⟨by omega, by omega⟩] at d
    have h1 : n * a ≤ 9000000000000000000 := (Int.le_ediv_iff_mul_le (by omega)).1 d
    have h0 : 0 ≤ n * a := Int.mul_nonneg n0 a0
    unfold f_X12_times_u22 f_X12_times_u25
    rw [Int.mul_comm] at h1 h0
    rw [w64_id ⟨by omega, by omega⟩]
    rw [show min mt_top (a * n) = a * n by unfold mt_top; omega] at k
    exact k
  · have e1 : Int.tdiv 9000000000000000000 a = 9000000000000000000 / a := Int.tdiv_eq_ediv_of_nonneg (by omega)
    have q0 : 0 ≤ (9000000000000000000 : Int) / a := Int.ediv_nonneg (by omega) a0
    have q1 : (9000000000000000000 : Int) / a ≤ 9000000000000000000 := Int.ediv_le_self _ (by omega)
    rw [e1, w64_id ⟨by omega, by omega⟩] at d
    have h1 : ¬ n * a ≤ 9000000000000000000 := fun c => d ((Int.le_ediv_iff_mul_le (by omega)).2 c)
    unfold f_X12_times_u25
    rw [Int.mul_comm] at h1
    rw [show min mt_top (a * n) = 9000000000000000000 by unfold mt_top; omega] at k
    exact k
def mt_st (S : Int → Int) (d v : Int) : Int → Int := fun k => if k = d then v else S k
/-- how many signs of a kind a TEXT stands for, exactly -/
def mt_ct (t : Int → Int) (n : Int) (sg cx : Int → Int) : Nat → Int → Int → (Int → Int) → Int
  | 0, _, _, S => S 0
  | F + 1, i, d, S =>
    if n ≤ i then S 0
    else if t i = 40 then mt_ct t n sg cx F (i + 1) (d + 1) (mt_st S (d + 1) 0)
    else if t i = 41 then mt_ct t n sg cx F (mt_tn t n (i + 1)) (d - 1) (mt_st S (d - 1) (S (d - 1) + mt_tm t n (i + 1) * S d))
    else if t i = 120 ∨ t i = 117 then mt_ct t n sg cx F (mt_tn t n (i + 2)) d (mt_st S d (S d + mt_tm t n (i + 2) * sg (t i)))
    else mt_ct t n sg cx F (mt_tn t n (i + 1)) d (mt_st S d (S d + mt_tm t n (i + 1) * cx (t i - 65)))
def mt_sx (c : Int) : Int := if c = 120 then 1 else 0
def mt_su (c : Int) : Int := if c = 117 then 1 else 0
def mt_ctw (t : Int → Int) (n : Int) (sg cx : Int → Int) : Int := mt_ct t n sg cx (n.toNat + 1) 0 0 (fun _ => 0)
theorem mt_ct_0 {t : Int → Int} {n h w : Int} {sg cx : Int → Int} (n0 : 0 ≤ n) (s0 : ∀ c, 0 ≤ sg c) (c0 : ∀ v, 0 ≤ v → v < w → 0 ≤ cx v) : ∀ (F : Nat) (i d need : Int) (S : Int → Int), 0 ≤ i → i ≤ n → 0 ≤ d → (∀ k, 0 ≤ k → k ≤ d → 0 ≤ S k) → mt_gr t n h w F i d need = 0 → 0 ≤ mt_ct t n sg cx F i d S := by
  intro F
  induction F with
  | zero => intro i d need S i0 i1 d0 hS _; exact hS 0 (by omega) d0
  | succ F ih =>
    intro i d need S i0 i1 d0 hS g
    unfold mt_ct
    rcases mt_gr_c n0 i0 g with z | z | z | z | z
    · rw [if_pos z.1]; exact hS 0 (by omega) d0
    · rw [if_neg (by omega), if_pos z.2.1]
      refine ih _ _ 1 _ (by omega) (by omega) (by omega) (fun k k0 k1 => ?_) z.2.2.2
      unfold mt_st; split
      · omega
      · exact hS k k0 (by omega)
    · obtain ⟨z1, z2, z3, z4, z5, z6⟩ := z
      rw [if_neg (by omega), if_neg (by omega), if_pos z2]
      have r := mt_tn_r (t := t) (n := n) (i := i + 1) (by omega)
      have rt := mt_tm_r (t := t) (n := n) (i := i + 1) (by omega) z5
      refine ih _ _ 0 _ (by omega) r.2 (by omega) (fun k k0 k1 => ?_) z6
      unfold mt_st; split
      · have := hS (d - 1) (by omega) (by omega)
        have := Int.mul_nonneg rt.1 (hS d d0 (by omega))
        omega
      · exact hS k k0 (by omega)
    · obtain ⟨z1, z2, z3, z4, z5, z6, z7, z8⟩ := z
      rw [if_neg (by omega), if_neg (by omega), if_neg (by omega), if_pos z2]
      have r := mt_tn_r (t := t) (n := n) (i := i + 2) (by omega)
      have rt := mt_tm_r (t := t) (n := n) (i := i + 2) (by omega) z7
      refine ih _ _ 0 _ (by omega) r.2 d0 (fun k k0 k1 => ?_) z8
      unfold mt_st; split
      · have := hS d d0 (by omega)
        have := Int.mul_nonneg rt.1 (s0 (t i))
        omega
      · exact hS k k0 (by omega)
    · obtain ⟨z1, z2, z3, z4, z5, z6⟩ := z
      rw [if_neg (by omega), if_neg (by omega), if_neg (by omega), if_neg (by omega)]
      have r := mt_tn_r (t := t) (n := n) (i := i + 1) (by omega)
      have rt := mt_tm_r (t := t) (n := n) (i := i + 1) (by omega) z5
      refine ih _ _ 0 _ (by omega) r.2 d0 (fun k k0 k1 => ?_) z6
      unfold mt_st; split
      · have := hS d d0 (by omega)
        have := Int.mul_nonneg rt.1 (c0 (t i - 65) (by omega) z4)
        omega
      · exact hS k k0 (by omega)
def mt_fc (τ0 τ : ml_St) : Prop := (∀ j, j ≠ 215 → j ≠ 223 → j ≠ 224 → j ≠ 225 → j ≠ 226 → τ j = τ0 j) ∧ (∀ b, b ≠ 19 → b ≠ 20 → τ 215 b = τ0 215 b)
/-- below depth d the sums stand for S -/
def mt_lo (A S : Int → Int) (d : Int) : Prop := ∀ k, 0 ≤ k → k < d → 0 ≤ S k ∧ A k = min mt_top (S k)
theorem s_counts {Q : ml_St → Prop} {τ0 : ml_St} {w n h : Int} {cx cu : Int → Int} (w0 : 0 ≤ w) (w1 : w < 16) (h5 : h ≤ 5) (n0 : 0 ≤ n) (n1 : n ≤ 100) (en : τ0 219 w = n) (tI : ∀ j, 0 ≤ j → j < n → ml_I8 (τ0 218 (100 * w + j))) (g : mt_gr (fun j => τ0 218 (100 * w + j)) n h w (n.toNat + 1) 0 0 1 = 0) (wc : ∀ v, 0 ≤ v → v < w → 0 ≤ cx v ∧ τ0 221 v = min mt_top (cx v) ∧ 0 ≤ cu v ∧ τ0 222 v = min mt_top (cu v))
    (k : ∀ τ, (∀ j, j ≠ 215 → j ≠ 221 → j ≠ 222 → j ≠ 223 → j ≠ 224 → j ≠ 225 → j ≠ 226 → τ j = τ0 j) → (∀ b, b ≠ 19 → b ≠ 20 → τ 215 b = τ0 215 b) → (∀ v, v ≠ w → τ 221 v = τ0 221 v ∧ τ 222 v = τ0 222 v) → τ 221 w = min mt_top (mt_ctw (fun j => τ0 218 (100 * w + j)) n mt_sx cx) → τ 222 w = min mt_top (mt_ctw (fun j => τ0 218 (100 * w + j)) n mt_su cu) → Q τ) : f_X12_counts τ0 w Q := by
  generalize ht : (fun j => τ0 218 (100 * w + j)) = t at *
  have htj : ∀ j, τ0 218 (100 * w + j) = t j := fun j => by rw [← ht]
  have uc := fun (j : Int) (hj : 0 ≤ j) => mt_u_c (t := t) (n := n) (i := j) (fun c => by rw [← htj]; exact tI j hj c)
  -- the end
  have KE : ∀ (τ : ml_St) (a l au lu : Int), mt_fc τ0 τ → 0 ≤ a → 0 ≤ l → 0 ≤ au → 0 ≤ lu → τ 223 0 = min mt_top a → τ 225 0 = min mt_top l → τ 224 0 = min mt_top au → τ 226 0 = min mt_top lu → a + l = mt_ctw t n mt_sx cx → au + lu = mt_ctw t n mt_su cu → f_X12_counts_u347 Q τ w := by
    intro τ a l au lu f a0 l0 au0 lu0 e1 e2 e3 e4 e5 e6
    unfold f_X12_counts_u347
    refine ⟨by omega, by omega, fun _ => ⟨by omega, by omega, fun _ => s_plus e1 e2 a0 l0 (fun _ _ => ⟨w0, w1, fun σ4 g4 => ⟨by omega, by omega, ?_⟩⟩)⟩⟩
    have f4 : ∀ j, j ≠ 221 → σ4 j = τ j := fun j hj => by rw [g4, ml_up_k hj]
    rw [f4 224 (by omega), f4 226 (by omega)]
    refine fun _ => ⟨by omega, by omega, fun _ => s_plus e3 e4 au0 lu0 (fun _ _ => ⟨w0, w1, fun σ8 g8 => ?_⟩)⟩
    have f8 : ∀ j, j ≠ 221 → j ≠ 222 → σ8 j = τ j := fun j hj hj2 => by rw [g8, ml_up_k hj2, f4 j hj]
    refine k σ8 (fun j h1 h2 h3 h4 h5 h6 h7 => by rw [f8 j h2 h3, f.1 j h1 h4 h5 h6 h7]) (fun b h1 h2 => by rw [f8 215 (by omega) (by omega), f.2 b h1 h2]) (fun v hv => ?_) ?_ ?_
    · rw [g8, ml_up_k (by omega), ml_up_i hv, g4, ml_up_i hv, ml_up_k (by omega), f.1 221 (by omega) (by omega) (by omega) (by omega) (by omega), f.1 222 (by omega) (by omega) (by omega) (by omega) (by omega)]
      exact ⟨rfl, rfl⟩
    · rw [g8, ml_up_k (by omega), g4, ml_up_same, e5]
    · rw [g8, ml_up_same, e6]
  have L : ∀ (F N : Nat) (i d need : Int) (S SU : Int → Int) (a l au lu : Int) (τ : ml_St), mt_fc τ0 τ → τ 215 20 = w → τ 215 19 = i → 0 ≤ i → i ≤ n → 0 ≤ d → d ≤ 6 → n - i < F → n - i + 1 < N → mt_lo (τ 223) S d → mt_lo (τ 224) SU d → 0 ≤ a → 0 ≤ l → 0 ≤ au → 0 ≤ lu → a + l = S d → au + lu = SU d → τ 223 d = min mt_top a → τ 225 d = min mt_top l → τ 224 d = min mt_top au → τ 226 d = min mt_top lu → mt_gr t n h w F i d need = 0 → mt_ct t n mt_sx cx F i d S = mt_ctw t n mt_sx cx → mt_ct t n mt_su cu F i d SU = mt_ctw t n mt_su cu → f_X12_counts_u40 Q (f_X12_counts_u347 Q) N τ w d := by
    intro F
    induction F with
    | zero => intro N i d need S SU a l au lu τ f e20 e19 i0 i1 d0 d6 hF; omega
    | succ F ih =>
      -- behind an item
      have AF : ∀ (N : Nat) (i d : Int) (S SU : Int → Int) (a l au lu : Int) (τ : ml_St), mt_fc τ0 τ → τ 215 20 = w → τ 215 19 = i → 0 ≤ i → i ≤ n → 0 ≤ d → d ≤ 6 → mt_tf t n i = 0 → n - i < F → n - i + 1 < N → mt_lo (τ 223) S d → mt_lo (τ 224) SU d → 0 ≤ a → 0 ≤ l → 0 ≤ au → 0 ≤ lu → τ 223 d = min mt_top a → τ 225 d = min mt_top l → τ 224 d = min mt_top au → τ 226 d = min mt_top lu → mt_gr t n h w F (mt_tn t n i) d 0 = 0 → mt_ct t n mt_sx cx F (mt_tn t n i) d (mt_st S d (a + mt_tm t n i * l)) = mt_ctw t n mt_sx cx → mt_ct t n mt_su cu F (mt_tn t n i) d (mt_st SU d (au + mt_tm t n i * lu)) = mt_ctw t n mt_su cu → f_X12_counts_u40 Q (f_X12_counts_u347 Q) N τ w d := by
        intro N i d S SU a l au lu τ f e20 e19 i0 i1 d0 d6 gt hF hN lo lou a0 l0 au0 lu0 eA eL eAU eLU g' hx hu
        have rt := mt_tm_r (t := t) (n := n) (i := i) i0 gt
        have rn := mt_tn_r (t := t) (n := n) (i := i) i1
        have lo' : mt_lo (τ 223) (mt_st S d (a + mt_tm t n i * l)) d := fun k k0 k1 => by unfold mt_st; rw [if_neg (by omega)]; exact lo k k0 k1
        have lou' : mt_lo (τ 224) (mt_st SU d (au + mt_tm t n i * lu)) d := fun k k0 k1 => by unfold mt_st; rw [if_neg (by omega)]; exact lou k k0 k1
        have tl := Int.mul_nonneg rt.1 l0
        have tlu := Int.mul_nonneg rt.1 lu0
        by_cases s : i < n ∧ t i = 42
        · obtain ⟨N, rfl⟩ : ∃ N', N = N' + 1 := ⟨N - 1, by omega⟩
          obtain ⟨m, m1, m2, q1, q2, q3, q4, q5⟩ := mt_tf_0 i0 gt s
          have u42 : mt_u t n i = 42 := by
            have := uc i i0
            have e : mt_c t n i = 42 := by unfold mt_c; rw [if_pos s.1]; exact s.2
            omega
          have f218 : ∀ j, τ 218 (100 * w + j) = t j := fun j => by rw [f.1 218 (by omega) (by omega) (by omega) (by omega) (by omega), htj]
          have f219 : τ 219 w = n := by rw [f.1 219 (by omega) (by omega) (by omega) (by omega) (by omega), en]
          unfold f_X12_counts_u40
          rw [e19, f219]
          refine fun _ => ⟨w0, w1, fun _ => ⟨fun c => absurd c (by omega), fun _ => ?_⟩⟩
          refine s_read w0 w1 i0 n1 e19 e20 f219 ?_
          rw [show (fun j => τ 218 (100 * w + j)) = t by funext j; exact f218 j, u42, e19]
          refine fun _ _ => ⟨mt_I (by omega) (by omega), fun σ7 g7 => ⟨fun c => absurd rfl c, fun _ => ?_⟩⟩
          have k7 : ∀ j, j ≠ 215 → σ7 j = τ j := fun j hj => by rw [g7, ml_up_k hj]
          have b7 : ∀ b, b ≠ 19 → σ7 215 b = τ 215 b := fun b hb => by rw [g7, ml_up_i hb]
          refine s_readNumber (i := i + 1) (m := m) w0 w1 (by omega) n1 (by rw [b7 20 (by omega), e20]) (by rw [g7, ml_up_same]) (by rw [k7 219 (by omega), f219]) m2 (by omega) (fun j j0 j1 => by rw [k7 218 (by omega), f218, ← htj]; exact tI j j0 j1) (fun k hk => by rw [k7 218 (by omega), f218]; exact q4 k hk) (fun hk => by rw [k7 218 (by omega), f218]; exact q5 hk) ?_
          rw [show (fun j => σ7 218 (100 * w + j)) = t by funext j; rw [k7 218 (by omega)]; exact f218 j, ← q3, g7, ml_up_up, ← q1]
          have k8 : ∀ j, j ≠ 215 → ml_up τ 215 19 (mt_tn t n i) j = τ j := fun j hj => ml_up_k hj
          refine fun _ => ⟨d0, by omega, ?_⟩
          rw [k8 225 (by omega)]
          refine fun _ => s_times eL l0 rt.1 (fun _ _ => ⟨d0, by omega, fun σ44 g44 => ⟨d0, by omega, ?_⟩⟩)
          rw [show σ44 226 = τ 226 by rw [g44, ml_up_k (by omega), k8 226 (by omega)]]
          refine fun _ => s_times eLU lu0 rt.1 (fun _ _ => ⟨d0, by omega, fun σ47 g47 => ?_⟩)
          have k9 : ∀ j, j ≠ 215 → j ≠ 225 → j ≠ 226 → σ47 j = τ j := fun j h1 h2 h3 => by rw [g47, ml_up_k h3, g44, ml_up_k h2, k8 j h1]
          have b9 : σ47 215 = ml_up τ 215 19 (mt_tn t n i) 215 := by rw [g47, ml_up_k (by omega), g44, ml_up_k (by omega)]
          refine ih N (mt_tn t n i) d 0 _ _ a (mt_tm t n i * l) au (mt_tm t n i * lu) σ47 ⟨fun j h1 h2 h3 h4 h5 => by rw [k9 j h1 h4 h5, f.1 j h1 h2 h3 h4 h5], fun b h1 h2 => by rw [b9, ml_up_i h1, f.2 b h1 h2]⟩ ?_ ?_ (by omega) rn.2 d0 d6 (by omega) (by omega) ?_ ?_ a0 tl au0 tlu ?_ ?_ ?_ ?_ ?_ ?_ g' hx hu
          · rw [b9, ml_up_i (by omega), e20]
          · rw [b9, ml_up_same]
          · rw [k9 223 (by omega) (by omega) (by omega)]; exact lo'
          · rw [k9 224 (by omega) (by omega) (by omega)]; exact lou'
          · unfold mt_st; rw [if_pos rfl]
          · unfold mt_st; rw [if_pos rfl]
          · rw [k9 223 (by omega) (by omega) (by omega), eA]
          · rw [g47, ml_up_k (by omega), g44, ml_up_same]
          · rw [k9 224 (by omega) (by omega) (by omega), eAU]
          · rw [g47, ml_up_same]
        · have q1 : mt_tn t n i = i := by unfold mt_tn; rw [if_neg s]
          have q3 : mt_tm t n i = 1 := by unfold mt_tm; rw [if_neg s]
          rw [q1] at g' hx hu
          refine ih N i d 0 _ _ a l au lu τ f e20 e19 i0 i1 d0 d6 hF hN lo' lou' a0 l0 au0 lu0 ?_ ?_ eA eL eAU eLU g' hx hu
          · unfold mt_st; rw [if_pos rfl, q3, Int.one_mul]
          · unfold mt_st; rw [if_pos rfl, q3, Int.one_mul]
      intro N i d need S SU a l au lu τ f e20 e19 i0 i1 d0 d6 hF hN lo lou a0 l0 au0 lu0 eS eSU eA eL eAU eLU g hx hu
      obtain ⟨N, rfl⟩ : ∃ N', N = N' + 1 := ⟨N - 1, by omega⟩
      have f218 : ∀ j, τ 218 (100 * w + j) = t j := fun j => by rw [f.1 218 (by omega) (by omega) (by omega) (by omega) (by omega), htj]
      have f219 : τ 219 w = n := by rw [f.1 219 (by omega) (by omega) (by omega) (by omega) (by omega), en]
      unfold mt_ct at hx hu
      unfold f_X12_counts_u40
      rw [e19, f219]
      refine fun _ => ⟨w0, w1, fun _ => ⟨fun c => ?_, fun c => ?_⟩⟩
      · rw [if_pos c] at hx hu
        rcases mt_gr_c n0 i0 g with z | z | z | z | z
        · have d00 : d = 0 := z.2.2
          subst d00
          exact KE τ a l au lu f a0 l0 au0 lu0 eA eL eAU eLU (by rw [eS, hx]) (by rw [eSU, hu])
        all_goals omega
      rw [if_neg c] at hx hu
      refine s_read w0 w1 i0 n1 e19 e20 f219 ?_
      have ui := uc i i0
      have ci : mt_c t n i = t i := by unfold mt_c; rw [if_pos (by omega)]
      have uti : (t i = 40 ∨ t i = 41 ∨ t i = 120 ∨ t i = 117 ∨ (65 ≤ t i ∧ t i < 81)) ∧ mt_u t n i = t i := by
        rcases mt_gr_c n0 i0 g with z | z | z | z | z <;> constructor <;> omega
      obtain ⟨tk, eu⟩ := uti
      rw [show (fun j => τ 218 (100 * w + j)) = t by funext j; exact f218 j, eu, e19]
      refine fun _ _ => ⟨mt_I (by omega) (by omega), fun σ7 g7 => ⟨fun _ => ⟨d0, by omega, fun _ => ⟨d0, by omega, ?_⟩⟩, fun c42 => absurd c42 (by omega)⟩⟩
      have k7 : ∀ j, j ≠ 215 → σ7 j = τ j := fun j hj => by rw [g7, ml_up_k hj]
      refine fun _ => s_plus (by rw [k7 223 (by omega)]; exact eA) (by rw [k7 225 (by omega)]; exact eL) a0 l0 (fun _ _ => ⟨d0, by omega, fun σ12 g12 => ⟨d0, by omega, ?_⟩⟩)
      have k12 : ∀ j, j ≠ 215 → j ≠ 223 → σ12 j = τ j := fun j h1 h2 => by rw [g12, ml_up_k h2, k7 j h1]
      refine fun _ => ⟨d0, by omega, fun _ => s_plus (by rw [k12 224 (by omega) (by omega)]; exact eAU) (by rw [k12 226 (by omega) (by omega)]; exact eLU) au0 lu0 (fun _ _ => ⟨d0, by omega, fun σ16 g16 => ?_⟩)⟩
      rw [eS] at g12
      rw [eSU] at g16
      have k16 : ∀ j, j ≠ 215 → j ≠ 223 → j ≠ 224 → σ16 j = τ j := fun j h1 h2 h3 => by rw [g16, ml_up_k h3, k12 j h1 h2]
      have b16 : ∀ b, b ≠ 19 → σ16 215 b = τ 215 b := fun b hb => by rw [g16, ml_up_k (by omega), g12, ml_up_k (by omega), g7, ml_up_i hb]
      have r16 : σ16 215 19 = i + 1 := by rw [g16, ml_up_k (by omega), g12, ml_up_k (by omega), g7, ml_up_same]
      have A16 : σ16 223 d = min mt_top (S d) := by rw [g16, ml_up_k (by omega), g12, ml_up_same]
      have U16 : σ16 224 d = min mt_top (SU d) := by rw [g16, ml_up_same]
      have A16' : ∀ x, x ≠ d → σ16 223 x = τ 223 x := fun x hx => by rw [g16, ml_up_k (by omega), g12, ml_up_i hx, k7 223 (by omega)]
      have U16' : ∀ x, x ≠ d → σ16 224 x = τ 224 x := fun x hx => by rw [g16, ml_up_i hx, k12 224 (by omega) (by omega)]
      have f16 : mt_fc τ0 σ16 := ⟨fun j h1 h2 h3 h4 h5 => by rw [k16 j h1 h2 h3, f.1 j h1 h2 h3 h4 h5], fun b h1 h2 => by rw [b16 b h1, f.2 b h1 h2]⟩
      have lo16 : mt_lo (σ16 223) S (d + 1) := fun k k0 k1 => by
        by_cases q : k = d
        · rw [q]; exact ⟨by omega, A16⟩
        · rw [A16' k q]; exact lo k k0 (by omega)
      have lou16 : mt_lo (σ16 224) SU (d + 1) := fun k k0 k1 => by
        by_cases q : k = d
        · rw [q]; exact ⟨by omega, U16⟩
        · rw [U16' k q]; exact lou k k0 (by omega)
      have S0 : 0 ≤ S d := by omega
      have SU0 : 0 ≤ SU d := by omega
      have SGN : (t i = 120 ∨ t i = 117) → f_X12_counts_u267 Q (f_X12_counts_u40 Q (f_X12_counts_u347 Q) N) σ16 w d (t i) := by
        intro hc
        rcases mt_gr_c n0 i0 g with z | z | z | z | z
        · omega
        · omega
        · omega
        · obtain ⟨z1, z2, z3, z4, z5, z6, z7, z8⟩ := z
          rw [if_neg (by omega), if_neg (by omega), if_pos hc] at hx hu
          unfold f_X12_counts_u267
          rw [r16]
          refine fun _ => ⟨mt_I (by omega) (by omega), fun σ3 g3 => ?_⟩
          have go : ∀ s1 s2, s1 = mt_sx (t i) → s2 = mt_su (t i) → f_X12_counts_u344 Q (f_X12_counts_u40 Q (f_X12_counts_u347 Q) N) (ml_up (ml_up σ3 225 d s1) 226 d s2) w d := by
            intro s1 s2 e1 e2
            unfold f_X12_counts_u344
            have sx0 : 0 ≤ mt_sx (t i) ∧ mt_sx (t i) ≤ 1 := by unfold mt_sx; split <;> omega
            have su0 : 0 ≤ mt_su (t i) ∧ mt_su (t i) ≤ 1 := by unfold mt_su; split <;> omega
            have kk : ∀ j, j ≠ 215 → j ≠ 225 → j ≠ 226 → ml_up (ml_up σ3 225 d s1) 226 d s2 j = σ16 j := fun j h1 h2 h3 => by rw [ml_up_k h3, ml_up_k h2, g3, ml_up_k h1]
            have bb : ml_up (ml_up σ3 225 d s1) 226 d s2 215 = σ3 215 := by rw [ml_up_k (by omega), ml_up_k (by omega)]
            refine AF N (i + 2) d S SU (S d) (mt_sx (t i)) (SU d) (mt_su (t i)) _ ⟨fun j h1 h2 h3 h4 h5 => by rw [kk j h1 h4 h5, f16.1 j h1 h2 h3 h4 h5], fun b h1 h2 => by rw [bb, g3, ml_up_i h1, f16.2 b h1 h2]⟩ ?_ ?_ (by omega) (by omega) d0 d6 z7 (by omega) (by omega) ?_ ?_ S0 sx0.1 SU0 su0.1 ?_ ?_ ?_ ?_ z8 hx hu
            · rw [bb, g3, ml_up_i (by omega), b16 20 (by omega), e20]
            · rw [bb, g3, ml_up_same]; omega
            · rw [kk 223 (by omega) (by omega) (by omega)]; exact fun k k0 k1 => lo16 k k0 (by omega)
            · rw [kk 224 (by omega) (by omega) (by omega)]; exact fun k k0 k1 => lou16 k k0 (by omega)
            · rw [kk 223 (by omega) (by omega) (by omega)]; exact A16
            · rw [ml_up_k (by omega), ml_up_same, e1]; unfold mt_top; omega
            · rw [kk 224 (by omega) (by omega) (by omega)]; exact U16
            · rw [ml_up_same, e2]; unfold mt_top; omega
          have go2 : ∀ s1, s1 = mt_sx (t i) → f_X12_counts_u293 Q (f_X12_counts_u40 Q (f_X12_counts_u347 Q) N) σ3 w d (t i) d s1 := by
            intro s1 e1
            unfold f_X12_counts_u293
            refine ⟨d0, by omega, fun σ1 g1 => ⟨fun c => ?_, fun c => ?_⟩⟩
            · unfold f_X12_counts_u310
              refine ⟨d0, by omega, fun σ2 g2 => ?_⟩
              rw [g2, g1]
              exact go s1 0 e1 (by unfold mt_su; rw [if_neg c])
            · unfold f_X12_counts_u310
              refine ⟨d0, by omega, fun σ2 g2 => ?_⟩
              rw [g2, g1]
              exact go s1 1 e1 (by unfold mt_su; rw [if_pos c])
          exact ⟨fun c => go2 0 (by unfold mt_sx; rw [if_neg c]), fun c => go2 1 (by unfold mt_sx; rw [if_pos c])⟩
        · omega
      refine ⟨fun c40 => ⟨fun c41 => ⟨fun c120 => SGN (Or.inl c120), fun c120 => ⟨fun c117 => ?_, fun c117 => SGN (Or.inr c117)⟩⟩, fun c41 => ?_⟩, fun c40 => ?_⟩
      · -- a letter
        rcases mt_gr_c n0 i0 g with z | z | z | z | z
        · omega
        · omega
        · omega
        · omega
        · obtain ⟨z1, z2, z3, z4, z5, z6⟩ := z
          rw [if_neg (by omega), if_neg (by omega), if_neg (by omega)] at hx hu
          obtain ⟨w1', w2', w3', w4'⟩ := wc (t i - 65) (by omega) z4
          refine ⟨mt_I (by omega) (by omega), by omega, by omega, fun _ => ⟨d0, by omega, fun σ23 g23 => ⟨mt_I (by omega) (by omega), by omega, by omega, fun _ => ⟨d0, by omega, fun σ26 g26 => ?_⟩⟩⟩⟩
          unfold f_X12_counts_u344
          have v221 : σ16 221 (t i - 65) = min mt_top (cx (t i - 65)) := by rw [k16 221 (by omega) (by omega) (by omega), f.1 221 (by omega) (by omega) (by omega) (by omega) (by omega), w2']
          have v222 : σ23 222 (t i - 65) = min mt_top (cu (t i - 65)) := by rw [g23, ml_up_k (by omega), k16 222 (by omega) (by omega) (by omega), f.1 222 (by omega) (by omega) (by omega) (by omega) (by omega), w4']
          have kk : ∀ j, j ≠ 225 → j ≠ 226 → σ26 j = σ16 j := fun j h2 h3 => by rw [g26, ml_up_k h3, g23, ml_up_k h2]
          refine AF N (i + 1) d S SU (S d) (cx (t i - 65)) (SU d) (cu (t i - 65)) _ ⟨fun j h1 h2 h3 h4 h5 => by rw [kk j h4 h5, f16.1 j h1 h2 h3 h4 h5], fun b h1 h2 => by rw [kk 215 (by omega) (by omega), f16.2 b h1 h2]⟩ ?_ ?_ (by omega) (by omega) d0 d6 z5 (by omega) (by omega) ?_ ?_ S0 w1' SU0 w3' ?_ ?_ ?_ ?_ z6 hx hu
          · rw [kk 215 (by omega) (by omega), b16 20 (by omega), e20]
          · rw [kk 215 (by omega) (by omega), r16]
          · rw [kk 223 (by omega) (by omega)]; exact fun k k0 k1 => lo16 k k0 (by omega)
          · rw [kk 224 (by omega) (by omega)]; exact fun k k0 k1 => lou16 k k0 (by omega)
          · rw [kk 223 (by omega) (by omega)]; exact A16
          · rw [g26, ml_up_k (by omega), g23, ml_up_same, v221]
          · rw [kk 224 (by omega) (by omega)]; exact U16
          · rw [g26, ml_up_same, v222]
      · -- a closing
        rcases mt_gr_c n0 i0 g with z | z | z | z | z
        · omega
        · omega
        · obtain ⟨z1, z2, z3, z4, z5, z6⟩ := z
          rw [if_neg (by omega), if_pos c41] at hx hu
          refine ⟨mt_I (by omega) (by omega), fun y27 e27 => ?_⟩
          have e27 : y27 = d - 1 := by omega
          subst e27
          rw [show d - 1 + 1 = d by omega]
          refine ⟨mt_I (by omega) (by omega), by omega, by omega, fun _ => ⟨by omega, by omega, fun σ30 g30 => ⟨mt_I (by omega) (by omega), by omega, by omega, fun _ => ⟨by omega, by omega, fun σ33 g33 => ?_⟩⟩⟩⟩
          unfold f_X12_counts_u344
          have kk : ∀ j, j ≠ 225 → j ≠ 226 → σ33 j = σ16 j := fun j h2 h3 => by rw [g33, ml_up_k h3, g30, ml_up_k h2]
          obtain ⟨p1, p2⟩ := lo16 (d - 1) (by omega) (by omega)
          obtain ⟨p3, p4⟩ := lou16 (d - 1) (by omega) (by omega)
          refine AF N (i + 1) (d - 1) S SU (S (d - 1)) (S d) (SU (d - 1)) (SU d) _ ⟨fun j h1 h2 h3 h4 h5 => by rw [kk j h4 h5, f16.1 j h1 h2 h3 h4 h5], fun b h1 h2 => by rw [kk 215 (by omega) (by omega), f16.2 b h1 h2]⟩ ?_ ?_ (by omega) (by omega) (by omega) (by omega) z5 (by omega) (by omega) ?_ ?_ p1 S0 p3 SU0 ?_ ?_ ?_ ?_ z6 hx hu
          · rw [kk 215 (by omega) (by omega), b16 20 (by omega), e20]
          · rw [kk 215 (by omega) (by omega), r16]
          · rw [kk 223 (by omega) (by omega)]; exact fun k k0 k1 => lo16 k k0 (by omega)
          · rw [kk 224 (by omega) (by omega)]; exact fun k k0 k1 => lou16 k k0 (by omega)
          · rw [kk 223 (by omega) (by omega)]; exact p2
          · rw [g33, ml_up_k (by omega), g30, ml_up_same, A16]
          · rw [kk 224 (by omega) (by omega)]; exact p4
          · rw [g33, ml_up_same, g30, ml_up_k (by omega), U16]
        · omega
        · omega
      · -- an opening
        rcases mt_gr_c n0 i0 g with z | z | z | z | z
        · omega
        · obtain ⟨z1, z2, z3, z4⟩ := z
          rw [if_pos c40] at hx hu
          refine ⟨d0, by omega, fun σ34 g34 => ⟨d0, by omega, fun σ35 g35 => ⟨mt_I (by omega) (by omega), fun y36 e36 => ?_⟩⟩⟩
          subst e36
          refine ⟨by omega, by omega, fun σ37 g37 => ⟨by omega, by omega, fun σ38 g38 => ⟨by omega, by omega, fun σ39 g39 => ⟨by omega, by omega, fun σ40 g40 => ?_⟩⟩⟩⟩
          unfold f_X12_counts_u344
          have kk : ∀ j, j ≠ 223 → j ≠ 224 → j ≠ 225 → j ≠ 226 → σ40 j = σ16 j := fun j h0 h1 h2 h3 => by rw [g40, ml_up_k h3, g39, ml_up_k h2, g38, ml_up_k h1, g37, ml_up_k h0, g35, ml_up_k h3, g34, ml_up_k h2]
          have v223 : σ40 223 = ml_up σ16 223 (d + 1) 0 223 := by
            rw [g40, ml_up_k (by omega), g39, ml_up_k (by omega), g38, ml_up_k (by omega), g37]
            funext b; unfold ml_up; rw [g35, ml_up_k (by omega), g34, ml_up_k (by omega)]
          have v224 : σ40 224 = ml_up σ16 224 (d + 1) 0 224 := by
            rw [g40, ml_up_k (by omega), g39, ml_up_k (by omega), g38]
            funext b; unfold ml_up; rw [g37, ml_up_k (by omega), g35, ml_up_k (by omega), g34, ml_up_k (by omega)]
          have top0 : min mt_top 0 = 0 := by unfold mt_top; omega
          refine ih N (i + 1) (d + 1) 1 _ _ 0 0 0 0 σ40 ⟨fun j h1 h2 h3 h4 h5 => by rw [kk j h2 h3 h4 h5, f16.1 j h1 h2 h3 h4 h5], fun b h1 h2 => by rw [kk 215 (by omega) (by omega) (by omega) (by omega), f16.2 b h1 h2]⟩ ?_ ?_ (by omega) (by omega) (by omega) (by omega) (by omega) (by omega) ?_ ?_ (by omega) (by omega) (by omega) (by omega) ?_ ?_ ?_ ?_ ?_ ?_ z4 hx hu
          · rw [kk 215 (by omega) (by omega) (by omega) (by omega), b16 20 (by omega), e20]
          · rw [kk 215 (by omega) (by omega) (by omega) (by omega), r16]
          · intro k k0 k1
            rw [v223, ml_up_i (by omega)]
            unfold mt_st; rw [if_neg (by omega)]
            exact lo16 k k0 k1
          · intro k k0 k1
            rw [v224, ml_up_i (by omega)]
            unfold mt_st; rw [if_neg (by omega)]
            exact lou16 k k0 k1
          · unfold mt_st; rw [if_pos rfl]; omega
          · unfold mt_st; rw [if_pos rfl]; omega
          · rw [v223, ml_up_same, top0]
          · rw [g40, ml_up_k (by omega), g39, ml_up_same, top0]
          · rw [v224, ml_up_same, top0]
          · rw [g40, ml_up_same, top0]
        · omega
        · omega
        · omega
  unfold f_X12_counts f_X12_counts_u0
  intro σ1 g1 σ2 g2
  refine ⟨by omega, by omega, fun σ3 g3 => ⟨by omega, by omega, fun σ4 g4 => ⟨by omega, by omega, fun σ5 g5 => ⟨by omega, by omega, fun σ6 g6 => ⟨n.toNat + 3, ?_⟩⟩⟩⟩⟩
  have top0 : min mt_top 0 = 0 := by unfold mt_top; omega
  have b6 : σ6 215 = σ2 215 := by rw [g6, ml_up_k (by omega), g5, ml_up_k (by omega), g4, ml_up_k (by omega), g3, ml_up_k (by omega)]
  refine L (n.toNat + 1) _ 0 0 1 (fun _ => 0) (fun _ => 0) 0 0 0 0 σ6 ⟨fun j h1 h2 h3 h4 h5 => ?_, fun b h1 h2 => ?_⟩ ?_ ?_ (by omega) n0 (by omega) (by omega) (by omega) (by omega) (fun k k0 k1 => absurd k1 (by omega)) (fun k k0 k1 => absurd k1 (by omega)) (by omega) (by omega) (by omega) (by omega) (by omega) (by omega) ?_ ?_ ?_ ?_ g rfl rfl
  · rw [g6, ml_up_k h5, g5, ml_up_k h4, g4, ml_up_k h3, g3, ml_up_k h2, g2, ml_up_k h1, g1, ml_up_k h1]
  · rw [b6, g2, ml_up_i h1, g1, ml_up_i h2]
  · rw [b6, g2, ml_up_i (by omega), g1, ml_up_same]
  · rw [b6, g2, ml_up_same]
  · rw [g6, ml_up_k (by omega), g5, ml_up_k (by omega), g4, ml_up_k (by omega), g3, ml_up_same, top0]
  · rw [g6, ml_up_k (by omega), g5, ml_up_same, top0]
  · rw [g6, ml_up_k (by omega), g5, ml_up_k (by omega), g4, ml_up_same, top0]
  · rw [g6, ml_up_same, top0]
/-! alike weaves make alike ones; the straight one in front changes nothing -/
def mt_weq (h : Int) (v w : Int → Int) : Prop := (∀ e, 0 ≤ e → e < 2 * h → v e = w e ∧ v (10 + e) = w (10 + e)) ∧ v 20 = w 20 ∧ v 21 = w 21 ∧ v 22 = w 22
theorem mt_weq_r {h : Int} {v : Int → Int} : mt_weq h v v := ⟨fun _ _ _ => ⟨rfl, rfl⟩, rfl, rfl, rfl⟩
theorem mt_weq_s {h : Int} {v w : Int → Int} (a : mt_weq h v w) : mt_weq h w v := ⟨fun e e0 e1 => ⟨(a.1 e e0 e1).1.symm, (a.1 e e0 e1).2.symm⟩, a.2.1.symm, a.2.2.1.symm, a.2.2.2.symm⟩
theorem mt_weq_t {h : Int} {u v w : Int → Int} (a : mt_weq h u v) (b : mt_weq h v w) : mt_weq h u w := ⟨fun e e0 e1 => ⟨(a.1 e e0 e1).1.trans (b.1 e e0 e1).1, (a.1 e e0 e1).2.trans (b.1 e e0 e1).2⟩, a.2.1.trans b.2.1, a.2.2.1.trans b.2.2.1, a.2.2.2.trans b.2.2.2⟩
theorem mt_weq_e {h : Int} {v w : Int → Int} (a : mt_weq h v w) : mt_eq h v w := fun e e0 e1 => (a.1 e e0 e1).1
theorem mt_weq_l {h : Int} {v w : Int → Int} (a : mt_weq h v w) : mt_eq h (mt_ln v) (mt_ln w) := fun e e0 e1 => (a.1 e e0 e1).2
theorem mt_mv_eq {h m : Int} {τ : ml_St} {v w : Int → Int} (a : mt_weq h v w) (b : mt_mv h τ m v) : mt_mv h τ m w := ⟨fun e e0 e1 => ⟨(b.1 e e0 e1).1.trans (a.1 e e0 e1).1, (b.1 e e0 e1).2.trans (a.1 e e0 e1).2⟩, b.2.1.trans a.2.1, b.2.2.1.trans a.2.2.1, b.2.2.2.trans a.2.2.2⟩
theorem mt_r1_c {h : Int} {a b a' b' : Int → Int} {m s t : Int} (ea : mt_weq h a a') (eb : mt_weq h b b') (t0 : 0 ≤ t) (t1 : t < 2 * h) (b0 : 0 ≤ b t) (b1 : b t < h) : mt_r1 h a b m s t = mt_r1 h a' b' m s t := by
  have e1 := eb.1 t t0 t1
  have e2 := ea.1 (b t + h) (by omega) (by omega)
  unfold mt_r1
  rw [← e1.1, e1.2, e2.1, e2.2]
theorem mt_mm_c {h : Int} {a b a' b' : Int → Int} (ea : mt_eq h a a') (eb : mt_eq h b b') : ∀ n : Nat, (n : Int) ≤ 2 * h → mt_mm h a b n = mt_mm h a' b' n := by
  intro n
  induction n with
  | zero => intro _; rfl
  | succ n ih =>
    intro hn
    unfold mt_mm
    rw [ih (by omega), mt_eq_met ea eb _ _ _ (mt_s_all (by omega) (by omega)).1]
theorem mt_rs_c {h : Int} {a b a' b' : Int → Int} (h2 : 0 ≤ h) (h5 : h ≤ 5) (ha : mt_M h a) (hb : mt_M h b) (ea : mt_weq h a a') (eb : mt_weq h b b') : ∀ n : Nat, (n : Int) ≤ h → mt_rs h a b n = mt_rs h a' b' n := by
  intro n
  induction n with
  | zero =>
    intro _
    unfold mt_rs
    rw [mt_mm_c (mt_weq_e ea) (mt_weq_e eb) _ (by omega), ea.2.1, ea.2.2.1, ea.2.2.2, eb.2.1, eb.2.2.1, eb.2.2.2]
  | succ n ih =>
    intro hn
    have i := ih (by omega)
    have hC := mt_rs_C h2 h5 ha hb n (by omega)
    unfold mt_rs
    by_cases q : mb_t (mt_rs h a b n).1 n = 0
    · have er : mt_rg h a b n = mt_rg h a' b' n := by
        obtain ⟨o, t, e1, e2, o0, o1, t0, t1, n1, n2, e3, e4, z1, z2, c⟩ := mt_rg_C h5 ha hb hC (by omega) (by omega) q
        have c1 := mt_r1_c (m := 0) (s := 0) (t := n) ea eb (by omega) (by omega) (by omega) (by omega)
        unfold mt_rg
        rw [← c1]
        have e17 : (mt_r1 h a b 0 0 n).2.2 = t := by show a (b n + h) - h = t; rw [e1]; omega
        rcases c with c | ⟨nc, o2, f1, f2, p0, p1, k1, k2, k3, f3, f4, yy⟩
        · rw [e17, if_pos c, if_pos c]
        · rw [e17, if_neg nc, if_neg nc]
          exact mt_r1_c ea eb t0 (by omega) (by omega) (by omega)
      rw [if_pos q, i] at *
      rw [if_pos q, er]
    · rw [if_neg q, i] at *
      rw [if_neg q]
theorem mt_both_c {h : Int} {a b a' b' : Int → Int} (h2 : 0 ≤ h) (h5 : h ≤ 5) (ha : mt_M h a) (hb : mt_M h b) (ea : mt_weq h a a') (eb : mt_weq h b b') : mt_weq h (mt_both h a b) (mt_both h a' b') := by
  have er := mt_rs_c h2 h5 ha hb ea eb h.toNat (by omega)
  refine ⟨fun e e0 e1 => ⟨?_, ?_⟩, ?_, ?_, ?_⟩
  · rw [mt_eq_both h5 e e0 e1, mt_eq_both h5 e e0 e1]
    unfold mt_prod
    rw [mt_eq_out (mt_weq_e ea) (mt_weq_e eb) _ _ (mt_s_all e0 e1).1]
  · rw [mt_both_ln h5 e0 e1, mt_both_ln h5 e0 e1, mt_eq_sum (mt_weq_e ea) (mt_weq_e eb) (mt_weq_l ea) (mt_weq_l eb) _ _ _ (mt_s_all e0 e1).1]
  · have e20 : ∀ a b, mt_both h a b 20 = (mt_rs h a b h.toNat).2.1 := fun a b => by unfold mt_both; rw [if_neg (by omega), if_neg (by omega), if_pos rfl]
    rw [e20, e20, er]
  · have e21 : ∀ a b, mt_both h a b 21 = (mt_rs h a b h.toNat).2.2.1 := fun a b => by unfold mt_both; rw [if_neg (by omega), if_neg (by omega), if_neg (by omega), if_pos rfl]
    rw [e21, e21, er]
  · have e22 : ∀ a b, mt_both h a b 22 = (mt_rs h a b h.toNat).2.2.2 := fun a b => by unfold mt_both; rw [if_neg (by omega), if_neg (by omega), if_neg (by omega), if_neg (by omega), if_pos rfl]
    rw [e22, e22, er]
/-- values in their ranges -/
def mt_ok (h : Int) (v : Int → Int) : Prop := (∀ e, 0 ≤ e → e < 2 * h → I64 (v (10 + e))) ∧ I64 (v 20) ∧ 0 ≤ v 21 ∧ I64 (v 22)
theorem mt_sum_I {h : Int} {a b ra rb : Int → Int} : ∀ (F : Nat) (x acc : Int), I64 (mt_sum h a b ra rb F x acc) := by
  intro F
  induction F with
  | zero => intro x acc; exact w64_r _
  | succ F ih => intro x acc; unfold mt_sum; split; exact ih _ _; exact w64_r _
theorem mt_rs_ok {h : Int} {a b : Int → Int} (a21 : 0 ≤ a 21) : ∀ n : Nat, I64 (mt_rs h a b n).2.1 ∧ 0 ≤ (mt_rs h a b n).2.2.1 ∧ I64 (mt_rs h a b n).2.2.2 := by
  intro n
  induction n with
  | zero => refine ⟨w64_r _, ?_, w64_r _⟩; show 0 ≤ max (a 21) (b 21); omega
  | succ n ih =>
    unfold mt_rs
    split
    · refine ⟨w64_r _, ?_, w64_r _⟩
      show 0 ≤ max (mt_rs h a b n).2.2.1 (mt_rg h a b n).2.1
      omega
    · exact ih
theorem mt_both_ok {h : Int} {a b : Int → Int} (h5 : h ≤ 5) (a21 : 0 ≤ a 21) : mt_ok h (mt_both h a b) := by
  obtain ⟨r1, r2, r3⟩ := mt_rs_ok (h := h) (b := b) a21 h.toNat
  refine ⟨fun e e0 e1 => by rw [mt_both_ln h5 e0 e1]; exact mt_sum_I _ _ _, ?_, ?_, ?_⟩
  · unfold mt_both; rw [if_neg (by omega), if_neg (by omega), if_pos rfl]; exact r1
  · unfold mt_both; rw [if_neg (by omega), if_neg (by omega), if_neg (by omega), if_pos rfl]; exact r2
  · unfold mt_both; rw [if_neg (by omega), if_neg (by omega), if_neg (by omega), if_neg (by omega), if_pos rfl]; exact r3
theorem mt_str_ok {h : Int} (h5 : h ≤ 5) : mt_ok h (mt_str h) := by
  have z : ∀ k : Int, 10 ≤ k → mt_str h k = 0 := fun k hk => by unfold mt_str; rw [if_neg (by omega)]
  exact ⟨fun e e0 e1 => by rw [z _ (by omega)]; exact ⟨by omega, by omega⟩, by rw [z _ (by omega)]; exact ⟨by omega, by omega⟩, by rw [z _ (by omega)]; exact Int.le_refl 0, by rw [z _ (by omega)]; exact ⟨by omega, by omega⟩⟩
theorem mt_sgn_ok {h i u : Int} (h5 : h ≤ 5) : mt_ok h (mt_sgn h i u) := by
  refine ⟨fun e e0 e1 => ?_, ?_, ?_, ?_⟩
  · unfold mt_sgn
    rw [if_neg (by omega), if_pos (by omega)]
    split <;> exact ⟨by omega, by omega⟩
  · have : mt_sgn h i u 20 = 0 := by unfold mt_sgn; simp
    rw [this]; exact ⟨by omega, by omega⟩
  · have : mt_sgn h i u 21 = 0 := by unfold mt_sgn; simp
    omega
  · have : mt_sgn h i u 22 = 0 := by unfold mt_sgn; simp
    rw [this]; exact ⟨by omega, by omega⟩
theorem mt_rp_ok {h : Int} (h5 : h ≤ 5) : ∀ (F : Nat) (r : Int) (it bs : Int → Int), mt_ok h it → 0 ≤ bs 21 → mt_ok h (mt_rp h F r it bs) := by
  intro F
  induction F with
  | zero => intro r it bs hi _; exact hi
  | succ F ih =>
    intro r it bs hi hb
    unfold mt_rp
    split
    · exact hi
    · refine ih _ _ _ ?_ (mt_both_ok h5 hb).2.2.1
      split
      · exact hi
      · exact mt_both_ok h5 hi.2.2.1
theorem mt_rep_ok {h times : Int} {it : Int → Int} (h5 : h ≤ 5) (hi : mt_ok h it) : mt_ok h (mt_rep h times it) := by
  unfold mt_rep
  split
  · exact hi
  · exact mt_rp_ok h5 _ _ _ _ (mt_str_ok h5) hi.2.2.1
theorem mt_out_in {h : Int} {a b : Int → Int} {F : Nat} {x : Int} (hi : mt_in h (mt_P h a b x)) : mt_out h a b (F + 1) x = mt_out h a b F (mt_J h (mt_P h a b x)) := by
  conv => lhs; unfold mt_out
  exact if_pos hi
theorem mt_out_no {h : Int} {a b : Int → Int} {F : Nat} {x : Int} (ho : ¬ mt_in h (mt_P h a b x)) : mt_out h a b F x = mt_P h a b x := by
  cases F with
  | zero => rfl
  | succ F => unfold mt_out; exact if_neg ho
theorem mt_id {h : Int} {v : Int → Int} (h2 : 2 ≤ h) (h5 : h ≤ 5) (hv : mt_M h v) (ov : mt_ok h v) : mt_weq h (mt_both h (mt_str h) v) v := by
  have z : ∀ k : Int, 10 ≤ k → mt_str h k = 0 := fun k hk => by unfold mt_str; rw [if_neg (by omega)]
  have s1 : ∀ e, 0 ≤ e → e < h → mt_str h e = e + h := fun e e0 e1 => by rw [(mt_str_e h5 e0 (by omega)).1, if_pos e1]
  have s2 : ∀ e, h ≤ e → e < 2 * h → mt_str h e = e - h := fun e e0 e1 => by rw [(mt_str_e h5 (by omega) e1).1, if_neg (by omega)]
  -- from B's left end of rail r, and from an end of B's outside
  have P1 : ∀ e, 0 ≤ e → e < h → mt_P h (mt_str h) v e = e + h := fun e e0 e1 => by unfold mt_P; rw [if_pos (by omega), s1 e e0 e1]
  have P2 : ∀ e, 0 ≤ e → e < 2 * h → mt_P h (mt_str h) v (2 * h + e) = 2 * h + v e := fun e e0 e1 => by unfold mt_P; rw [if_neg (by omega), show 2 * h + e - 2 * h = e by omega]
  have P3 : ∀ e, h ≤ e → e < 2 * h → mt_P h (mt_str h) v e = e - h := fun e e0 e1 => by unfold mt_P; rw [if_pos (by omega), s2 e e0 e1]
  have R1 : ∀ e, 0 ≤ e → e < 2 * h → mt_R h (mt_ln (mt_str h)) (mt_ln v) e = 0 := fun e e0 e1 => by unfold mt_R; rw [if_pos (by omega)]; exact z _ (by omega)
  have R2 : ∀ e, 0 ≤ e → e < 2 * h → mt_R h (mt_ln (mt_str h)) (mt_ln v) (2 * h + e) = v (10 + e) := fun e e0 e1 => by unfold mt_R; rw [if_neg (by omega), show 2 * h + e - 2 * h = e by omega]; rfl
  have B : ∀ (F : Nat) (e acc : Int), 1 ≤ F → 0 ≤ e → e < 2 * h → mt_e h (mt_out h (mt_str h) v F (2 * h + e)) = v e ∧ mt_sum h (mt_str h) v (mt_ln (mt_str h)) (mt_ln v) F (2 * h + e) acc = w64 (acc + v (10 + e)) := by
    intro F e acc hF e0 e1
    obtain ⟨F, rfl⟩ : ∃ F', F = F' + 1 := ⟨F - 1, by omega⟩
    obtain ⟨v0, v1, v2, v3⟩ := hv e e0 e1
    by_cases c : v e < h
    · have hin : mt_in h (mt_P h (mt_str h) v (2 * h + e)) := by rw [P2 e e0 e1]; exact ⟨by omega, by omega⟩
      have hJ : mt_J h (mt_P h (mt_str h) v (2 * h + e)) = h + v e := by rw [P2 e e0 e1]; unfold mt_J; rw [if_neg (by omega)]; omega
      have hP : mt_P h (mt_str h) v (h + v e) = v e := by rw [P3 _ (by omega) (by omega)]; omega
      have hno : ¬ mt_in h (mt_P h (mt_str h) v (h + v e)) := by rw [hP]; intro q; have := q.1; omega
      have o1 : mt_out h (mt_str h) v (F + 1) (2 * h + e) = mt_out h (mt_str h) v F (h + v e) := by
        rw [mt_out_in hin, hJ]
      have o2 : mt_out h (mt_str h) v F (h + v e) = v e := by rw [mt_out_no hno, hP]
      refine ⟨?_, ?_⟩
      · rw [o1, o2]; unfold mt_e; rw [if_pos c]
      · rw [mt_sum_in hin, hJ, mt_sum_out hno, R2 e e0 e1, R1 _ (by omega) (by omega), Int.add_zero]
        exact w64_id (w64_r _)
    · have hno : ¬ mt_in h (mt_P h (mt_str h) v (2 * h + e)) := by rw [P2 e e0 e1]; intro q; have := q.2; omega
      have o1 : mt_out h (mt_str h) v (F + 1) (2 * h + e) = 2 * h + v e := by
        rw [mt_out_no hno, P2 e e0 e1]
      refine ⟨?_, ?_⟩
      · rw [o1]; unfold mt_e; rw [if_neg (by omega)]; omega
      · rw [mt_sum_out hno, R2 e e0 e1]
  have main : ∀ e, 0 ≤ e → e < 2 * h → mt_prod h (mt_str h) v e = v e ∧ mt_sum h (mt_str h) v (mt_ln (mt_str h)) (mt_ln v) 10 (mt_s h e) 0 = w64 (0 + v (10 + e)) := by
    intro e e0 e1
    unfold mt_prod mt_s
    by_cases c : e < h
    · rw [if_pos c]
      have hin : mt_in h (mt_P h (mt_str h) v e) := by rw [P1 e e0 c]; exact ⟨by omega, by omega⟩
      have hJ : mt_J h (mt_P h (mt_str h) v e) = 2 * h + e := by rw [P1 e e0 c]; unfold mt_J; rw [if_pos (by omega)]; omega
      have o1 : mt_out h (mt_str h) v 10 e = mt_out h (mt_str h) v 9 (2 * h + e) := by
        rw [mt_out_in hin, hJ]
      rw [o1, mt_sum_in hin, hJ, R1 e e0 e1]
      have := B 9 e (w64 (0 + 0)) (by omega) e0 e1
      rw [show w64 (0 + 0) = 0 by decide] at *
      exact this
    · rw [if_neg c]
      exact B 10 e 0 (by omega) e0 e1
  -- every rail is met
  have met : ∀ n : Nat, (n : Int) ≤ h → mt_rs h (mt_str h) v n = mt_rs h (mt_str h) v 0 := by
    intro n
    induction n with
    | zero => intro _; rfl
    | succ n ih =>
      intro hn
      have i := ih (by omega)
      conv => lhs; unfold mt_rs
      rw [i]
      have : mb_t (mt_rs h (mt_str h) v 0).1 n = 1 := by
        show mb_t (mt_mm h (mt_str h) v (2 * h).toNat) n = 1
        refine ((mt_mm_bit (a := mt_str h) (b := v) h5 (2 * h).toNat).2 n (by omega) (by omega)).2 ⟨n, by omega, ?_⟩
        have es : mt_s h (n : Int) = n := by unfold mt_s; rw [if_pos (by omega)]
        rw [es, mt_hit_s, P1 n (by omega) (by omega)]
        refine ⟨⟨by omega, by omega⟩, Or.inl ?_⟩
        unfold mt_rl; rw [if_pos (by omega)]; omega
      rw [if_neg (by omega)]
  have r := met h.toNat (by omega)
  refine ⟨fun e e0 e1 => ⟨?_, ?_⟩, ?_, ?_, ?_⟩
  · rw [mt_eq_both h5 e e0 e1, (main e e0 e1).1]
  · rw [mt_both_ln h5 e0 e1, (main e e0 e1).2, Int.zero_add, w64_id (ov.1 e e0 e1)]
  · unfold mt_both; rw [if_neg (by omega), if_neg (by omega), if_pos rfl, r]
    show w64 (mt_str h 20 + v 20) = v 20
    rw [z 20 (by omega), Int.zero_add, w64_id ov.2.1]
  · unfold mt_both; rw [if_neg (by omega), if_neg (by omega), if_neg (by omega), if_pos rfl, r]
    show max (mt_str h 21) (v 21) = v 21
    rw [z 21 (by omega)]; have := ov.2.2.1; omega
  · unfold mt_both; rw [if_neg (by omega), if_neg (by omega), if_neg (by omega), if_neg (by omega), if_pos rfl, r]
    show w64 (mt_str h 22 + v 22) = v 22
    rw [z 22 (by omega), Int.zero_add, w64_id ov.2.2.2]
/-! the model: what a TEXT makes -/
theorem mt_rp_c {h : Int} (h2 : 0 ≤ h) (h5 : h ≤ 5) : ∀ (F : Nat) (r : Int) (it bs it' bs' : Int → Int), mt_M h it → mt_M h bs → mt_weq h it it' → mt_weq h bs bs' → mt_weq h (mt_rp h F r it bs) (mt_rp h F r it' bs') := by
  intro F
  induction F with
  | zero => intro r it bs it' bs' _ _ e _; exact e
  | succ F ih =>
    intro r it bs it' bs' hi hb ei eb
    unfold mt_rp
    by_cases c : r ≤ 0
    · rw [if_pos c, if_pos c]; exact ei
    · rw [if_neg c, if_neg c]
      by_cases d : r % 2 = 0
      · rw [if_pos d, if_pos d]; exact ih _ _ _ _ _ hi (mt_both_M h5 hb hb) ei (mt_both_c h2 h5 hb hb eb eb)
      · rw [if_neg d, if_neg d]; exact ih _ _ _ _ _ (mt_both_M h5 hi hb) (mt_both_M h5 hb hb) (mt_both_c h2 h5 hi hb ei eb) (mt_both_c h2 h5 hb hb eb eb)
theorem mt_rp_1 {h : Int} {it : Int → Int} : mt_rp h 40 1 (mt_str h) it = mt_both h (mt_str h) it := by
  rw [show (40 : Nat) = 38 + 1 + 1 from rfl]
  conv => lhs; unfold mt_rp
  rw [if_neg (by omega), if_neg (by omega), show (1 : Int) / 2 = 0 by omega]
  unfold mt_rp
  rw [if_pos (by omega)]
theorem mt_rp_0 {h : Int} {it bs : Int → Int} {F : Nat} : mt_rp h F 0 it bs = it := by
  cases F with
  | zero => rfl
  | succ F => unfold mt_rp; rw [if_pos (Int.le_refl 0)]
def mt_fp (z : Int) (P : Int → Prop) (τ τ' : ml_St) : Prop := (∀ k, k ≠ 215 → k ≠ 227 → k ≠ 228 → k ≠ 229 → k ≠ 230 → k ≠ 231 → k ≠ 232 → τ' k = τ k) ∧ (∀ b, b ≠ z → b ≠ 27 → τ' 215 b = τ 215 b) ∧ (∀ m, ¬ P m → (∀ e, 0 ≤ e → e < 10 → τ' 227 (10 * m + e) = τ 227 (10 * m + e) ∧ τ' 228 (10 * m + e) = τ 228 (10 * m + e)) ∧ τ' 229 m = τ 229 m ∧ τ' 230 m = τ 230 m ∧ τ' 231 m = τ 231 m)
theorem mt_fp_r {z : Int} {P : Int → Prop} {τ : ml_St} : mt_fp z P τ τ := ⟨fun _ _ _ _ _ _ _ _ => rfl, fun _ _ _ => rfl, fun _ _ => ⟨fun _ _ _ => ⟨rfl, rfl⟩, rfl, rfl, rfl⟩⟩
theorem mt_fp_t {z : Int} {P : Int → Prop} {τ τ1 τ2 : ml_St} (a : mt_fp z P τ τ1) (b : mt_fp z P τ1 τ2) : mt_fp z P τ τ2 := by
  obtain ⟨a1, a2, a3⟩ := a
  obtain ⟨b1, b2, b3⟩ := b
  refine ⟨fun k g1 g2 g3 g4 g5 g6 g7 => by rw [b1 k g1 g2 g3 g4 g5 g6 g7, a1 k g1 g2 g3 g4 g5 g6 g7], fun j g g' => by rw [b2 j g g', a2 j g g'], fun m hm => ?_⟩
  obtain ⟨x1, x2, x3, x4⟩ := a3 m hm
  obtain ⟨y1, y2, y3, y4⟩ := b3 m hm
  refine ⟨fun e e0 e1 => ?_, y2.trans x2, y3.trans x3, y4.trans x4⟩
  exact ⟨(y1 e e0 e1).1.trans (x1 e e0 e1).1, (y1 e e0 e1).2.trans (x1 e e0 e1).2⟩
theorem mt_fp_mf {z : Int} {P : Int → Prop} {c : Int} {τ τ' : ml_St} (hc : P c) (f : mt_mf c τ τ') : mt_fp z P τ τ' := by
  obtain ⟨f1, f2, f3, f4⟩ := f
  refine ⟨f1, fun b _ hb => f2 b hb, fun m hm => ?_⟩
  have ne : m ≠ c := fun q => hm (q ▸ hc)
  exact ⟨fun e e0 e1 => f3 _ (by omega), (f4 m ne).1, (f4 m ne).2.1, (f4 m ne).2.2⟩
theorem mt_fp_w {z : Int} {P P' : Int → Prop} {τ τ' : ml_St} (hP : ∀ m, P m → P' m) (f : mt_fp z P τ τ') : mt_fp z P' τ τ' := ⟨f.1, f.2.1, fun m hm => f.2.2 m (fun q => hm (hP m q))⟩
theorem mt_fp_19 {P : Int → Prop} {v : Int} {τ : ml_St} : mt_fp 19 P τ (ml_up τ 215 19 v) := ⟨fun k h1 _ _ _ _ _ _ => ml_up_k h1, fun b hb _ => ml_up_i hb, fun m _ => ⟨fun e _ _ => by rw [ml_up_k (by omega), ml_up_k (by omega)]; exact ⟨rfl, rfl⟩, by rw [ml_up_k (by omega)], by rw [ml_up_k (by omega)], by rw [ml_up_k (by omega)]⟩⟩
theorem mt_fp_q {P : Int → Prop} {τ τ' : ml_St} (f : mt_fp 27 P τ τ') : mt_fp 19 P τ τ' := ⟨f.1, fun b _ hb => f.2.1 b hb hb, f.2.2⟩
theorem mt_mv_p {z : Int} {P : Int → Prop} {h m : Int} {τ τ' : ml_St} {v : Int → Int} (h5 : h ≤ 5) (f : mt_fp z P τ τ') (d : ¬ P m) (w : mt_mv h τ m v) : mt_mv h τ' m v := by
  obtain ⟨x1, x2, x3, x4⟩ := f.2.2 m d
  refine ⟨fun e e0 e1 => ?_, x2.trans w.2.1, x3.trans w.2.2.1, x4.trans w.2.2.2⟩
  exact ⟨(x1 e e0 (by omega)).1.trans (w.1 e e0 e1).1, (x1 e e0 (by omega)).2.trans (w.1 e e0 e1).2⟩
theorem s_goesOn {Q : ml_St → Prop} {d h : Int} {τ : ml_St} {a l : Int → Int} (h2 : 2 ≤ h) (h5 : h ≤ 5) (d0 : 0 ≤ d) (d6 : d ≤ 6) (th : τ 215 2 = h) (ha : mt_M h a) (hl : mt_M h l) (wa : mt_mv h τ (16 + 2 * d) a) (wl : mt_mv h τ (17 + 2 * d) l) (k : ∀ σ, mt_fp 27 (fun m => m = 63 ∨ m = 16 + 2 * d) τ σ → mt_mv h σ (16 + 2 * d) (mt_both h a l) → Q σ) : f_X12_goesOn τ d Q := by
  unfold f_X12_goesOn f_X12_goesOn_u0
  refine ⟨mt_I (by omega) (by omega), mt_I (by omega) (by omega), mt_I (by omega) (by omega), mt_I (by omega) (by omega), ?_⟩
  refine s_lays h2 h5 ⟨by omega, by omega⟩ ⟨by omega, by omega⟩ ⟨by omega, by omega⟩ th ha hl wa wl (by omega) (by omega) (fun σ5 f5 w5 => ⟨mt_I (by omega) (by omega), mt_I (by omega) (by omega), ?_⟩)
  refine s_copies h2 h5 ⟨by omega, by omega⟩ ⟨by omega, by omega⟩ (by omega) (by rw [f5.2.1 2 (by omega), th]) w5 (fun σ8 f8 w8 => k σ8 ?_ w8)
  exact mt_fp_t (mt_fp_mf (Or.inl rfl) f5) (mt_fp_mf (Or.inr rfl) f8)
theorem s_repeats {Q : ml_St → Prop} {m n h : Int} {τ : ml_St} {v : Int → Int} (h2 : 2 ≤ h) (h5 : h ≤ 5) (m0 : 0 ≤ m) (m1 : m < 60) (n0 : 0 ≤ n) (n1 : n < 1000000000) (th : τ 215 2 = h) (hv : mt_M h v) (wv : mt_mv h τ m v) (k : ∀ σ, mt_fp 27 (fun x => x = m ∨ x = 60 ∨ x = 61 ∨ x = 62) τ σ → mt_mv h σ m (mt_rp h 40 n (mt_str h) v) → Q σ) : f_X12_repeats τ m n Q := by
  have L : ∀ (N F : Nat) (r : Int) (it bs : Int → Int) (σ1 : ml_St), 0 ≤ r → r < ((2 ^ F : Nat) : Int) → F + 1 < N → mt_fp 27 (fun x => x = m ∨ x = 60 ∨ x = 61 ∨ x = 62) τ σ1 → mt_mv h σ1 60 it → mt_mv h σ1 61 bs → mt_M h it → mt_M h bs → r < 1000000000 → mt_rp h (F + 1) r it bs = mt_rp h 40 n (mt_str h) v → f_X12_repeats_u15 Q (f_X12_repeats_u69 Q) N σ1 m r := by
    intro N
    induction N with
    | zero => intro F r it bs σ1 _ _ hN; omega
    | succ N ih =>
      intro F r it bs σ1 r0 r1 hN f w1 w2 hi hb r9 er
      have th1 : σ1 215 2 = h := by rw [f.2.1 2 (by omega) (by omega), th]
      unfold f_X12_repeats_u15
      unfold mt_rp at er
      refine ⟨fun c => ?_, fun c => ?_⟩
      · rw [if_pos c] at er
        unfold f_X12_repeats_u69
        refine s_copies h2 h5 ⟨by omega, by omega⟩ ⟨m0, by omega⟩ (by omega) th1 w1 (fun σ2 f2 w2 => k σ2 (mt_fp_t f (mt_fp_mf (Or.inl rfl) f2)) ?_)
        rw [er] at w2
        exact w2
      rw [if_neg c] at er
      have tm : Int.tmod r 2 = r % 2 := Int.tmod_eq_emod_of_nonneg r0
      have td : Int.tdiv r 2 = r / 2 := Int.tdiv_eq_ediv_of_nonneg r0
      obtain ⟨F, rfl⟩ : ∃ F', F = F' + 1 := ⟨F - 1, by
        cases F with
        | zero => have : ((2 ^ 0 : Nat) : Int) = 1 := rfl; omega
        | succ F => omega⟩
      have p2 : ((2 ^ (F + 1) : Nat) : Int) = 2 * ((2 ^ F : Nat) : Int) := by rw [Nat.pow_succ, Int.natCast_mul]; omega
      have go : ∀ (it' : Int → Int) (σ2 : ml_St), mt_fp 27 (fun x => x = m ∨ x = 60 ∨ x = 61 ∨ x = 62) τ σ2 → mt_mv h σ2 60 it' → mt_mv h σ2 61 bs → mt_M h it' → mt_rp h (F + 1) (r / 2) it' (mt_both h bs bs) = mt_rp h 40 n (mt_str h) v → f_X12_repeats_u44 Q (f_X12_repeats_u15 Q (f_X12_repeats_u69 Q) N) σ2 m r := by
        intro it' σ2 f2 wi wb hi' er
        have th2 : σ2 215 2 = h := by rw [f2.2.1 2 (by omega) (by omega), th]
        unfold f_X12_repeats_u44
        rw [td]
        refine ⟨by omega, ⟨by omega, by omega⟩, fun y2 e2 => ?_⟩
        subst e2
        refine s_lays h2 h5 ⟨by omega, by omega⟩ ⟨by omega, by omega⟩ ⟨by omega, by omega⟩ th2 hb hb wb wb (by omega) (by omega) (fun σ3 f3 w3 => ?_)
        refine s_copies h2 h5 ⟨by omega, by omega⟩ ⟨by omega, by omega⟩ (by omega) (by rw [f3.2.1 2 (by omega), th2]) w3 (fun σ4 f4 w4 => ?_)
        refine ih F (r / 2) it' (mt_both h bs bs) σ4 (by omega) (by omega) (by omega) ?_ ?_ w4 hi' (mt_both_M h5 hb hb) (by omega) er
        · exact mt_fp_t f2 (mt_fp_t (mt_fp_mf (Or.inr (Or.inr (Or.inr rfl))) f3) (mt_fp_mf (Or.inr (Or.inr (Or.inl rfl))) f4))
        · exact mt_mv_f h5 f4 (by omega) (mt_mv_f h5 f3 (by omega) wi)
      rw [tm]
      refine ⟨by omega, ⟨by omega, by omega⟩, fun d => ?_, fun d => ?_⟩
      · rw [if_pos (by omega)] at er
        exact go it σ1 f w1 w2 hi er
      · rw [if_neg (by omega)] at er
        refine s_lays h2 h5 ⟨by omega, by omega⟩ ⟨by omega, by omega⟩ ⟨by omega, by omega⟩ th1 hi hb w1 w2 (by omega) (by omega) (fun σ4 f4 w4 => ?_)
        refine s_copies h2 h5 ⟨by omega, by omega⟩ ⟨by omega, by omega⟩ (by omega) (by rw [f4.2.1 2 (by omega), th1]) w4 (fun σ5 f5 w5 => ?_)
        refine go (mt_both h it bs) σ5 ?_ w5 ?_ (mt_both_M h5 hi hb) er
        · exact mt_fp_t f (mt_fp_t (mt_fp_mf (Or.inr (Or.inr (Or.inr rfl))) f4) (mt_fp_mf (Or.inr (Or.inl rfl)) f5))
        · exact mt_mv_f h5 f5 (by omega) (mt_mv_f h5 f4 (by omega) w2)
  unfold f_X12_repeats f_X12_repeats_u0
  refine s_straight h2 h5 ⟨by omega, by omega⟩ th (fun σ1 f1 w1 => ?_)
  have th1 : σ1 215 2 = h := by rw [f1.2.1 2 (by omega), th]
  refine s_copies h2 h5 ⟨m0, by omega⟩ ⟨by omega, by omega⟩ (by omega) th1 (mt_mv_f h5 f1 (by omega) wv) (fun σ2 f2 w2 => ⟨50, ?_⟩)
  have l : ((2 ^ 39 : Nat) : Int) = 549755813888 := rfl
  exact L 50 39 n (mt_str h) v σ2 n0 (by omega) (by omega) (mt_fp_t (mt_fp_mf (Or.inr (Or.inl rfl)) f1) (mt_fp_mf (Or.inr (Or.inr (Or.inl rfl))) f2)) (mt_mv_f h5 f2 (by omega) w1) w2 (mt_str_M h5) hv n1 rfl
