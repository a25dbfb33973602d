/-! the model reads a word's TEXT; counts of signs -/
theorem ml_up_up {σ : ml_St} {k i u v : Int} : ml_up (ml_up σ k i u) k i v = ml_up σ k i v := by
  funext a b; unfold ml_up
  by_cases q : a = k ∧ b = i <;> simp [q]
theorem ml_up_id {σ : ml_St} {k i v : Int} (h : σ k i = v) : ml_up σ k i v = σ := by
  funext a b; unfold ml_up
  by_cases q : a = k ∧ b = i
  · rw [if_pos q, q.1, q.2, h]
  · rw [if_neg q]
theorem s_read {Q : Int → ml_St → Prop} {τ : ml_St} {w n i : Int} (w0 : 0 ≤ w) (w1 : w < 16) (i0 : 0 ≤ i) (n1 : n ≤ 100) (e19 : τ 215 19 = i) (e20 : τ 215 20 = w) (en : τ 219 w = n) (k : Q (mt_u (fun j => τ 218 (100 * w + j)) n i) τ) : f_X12_read τ Q := by
  unfold f_X12_read f_X12_read_u0
  rw [e19, e20, en]
  unfold mt_u at k
  refine fun _ _ => ⟨w0, w1, fun _ => ⟨fun c => ?_, fun c _ => ⟨mt_I (by omega) (by omega), fun _ => ⟨mt_I (by omega) (by omega), by omega, by omega, fun _ => ?_⟩⟩⟩⟩
  · unfold f_X12_read_u41; rw [if_neg (by omega)] at k; exact k
  · unfold f_X12_read_u41; rw [if_pos (by omega)] at k; exact k
theorem s_readNumber {Q : Int → ml_St → Prop} {τ : ml_St} {w n i : Int} {m : Nat} (w0 : 0 ≤ w) (w1 : w < 16) (i0 : 0 ≤ i) (n1 : n ≤ 100) (e20 : τ 215 20 = w) (e19 : τ 215 19 = i) (en : τ 219 w = n) (m9 : m ≤ 9) (hn : i + m ≤ n) (tI : ∀ j, 0 ≤ j → j < n → ml_I8 (τ 218 (100 * w + j))) (hd : ∀ k : Nat, k < m → 48 ≤ τ 218 (100 * w + (i + k)) ∧ τ 218 (100 * w + (i + k)) ≤ 57) (he : i + m < n → ¬ (48 ≤ τ 218 (100 * w + (i + m)) ∧ τ 218 (100 * w + (i + m)) ≤ 57))
    (k : Q (mt_vl (fun j => τ 218 (100 * w + j)) i m) (ml_up τ 215 19 (i + m))) : f_X12_readNumber τ Q := by
  have L : ∀ (N q : Nat), q ≤ m → m - q < N → f_X12_readNumber_u2 Q (f_X12_readNumber_u38 Q) N (ml_up τ 215 19 (i + q)) (mt_vl (fun j => τ 218 (100 * w + j)) i q) := by
    intro N
    induction N with
    | zero => intro q hq hN; omega
    | succ N ih =>
      intro q hq hN
      have f19 : ml_up τ 215 19 (i + q) 215 19 = i + q := ml_up_same _ _ _ _
      have f20 : ml_up τ 215 19 (i + q) 215 20 = w := by rw [ml_up_i (by omega), e20]
      have fn : ml_up τ 215 19 (i + q) 219 w = n := by rw [ml_up_k (by omega), en]
      have f218 : ml_up τ 215 19 (i + q) 218 = τ 218 := ml_up_k (by omega)
      have uc := mt_u_c (t := fun j => τ 218 (100 * w + j)) (n := n) (i := i + q) (fun c => tI _ (by omega) c)
      unfold f_X12_readNumber_u2
      refine s_read w0 w1 (by omega) n1 f19 f20 fn ?_
      rw [f218]
      refine fun _ => s_dig12 (fun z => ?_) (fun z => ?_)
      · have hq2 : q < m := by
          rcases Nat.lt_or_ge q m with c | c
          · exact c
          · exfalso
            have : q = m := by omega
            subst this
            by_cases c2 : i + (q : Int) < n
            · refine he c2 ?_
              have : mt_c (fun j => τ 218 (100 * w + j)) n (i + q) = τ 218 (100 * w + (i + q)) := by unfold mt_c; rw [if_pos c2]
              omega
            · unfold mt_u at z; rw [if_neg c2] at z; omega
        have d := hd q hq2
        have r := mt_vl_r (t := fun j => τ 218 (100 * w + j)) (j := i) q (fun k hk => hd k (by omega))
        have l : (10 : Nat) ^ q ≤ 10 ^ 8 := Nat.pow_le_pow_right (by omega) (by omega)
        have ec : mt_c (fun j => τ 218 (100 * w + j)) n (i + q) = τ 218 (100 * w + (i + q)) := by unfold mt_c; rw [if_pos (by omega)]
        have eu : mt_u (fun j => τ 218 (100 * w + j)) n (i + q) = τ 218 (100 * w + (i + q)) := by omega
        refine fun _ => ⟨fun c => absurd c (by omega), fun _ => ⟨⟨by omega, by omega⟩, ?_⟩⟩
        refine s_read w0 w1 (by omega) n1 f19 f20 fn ?_
        rw [f218, eu]
        refine fun _ => ⟨⟨by omega, by omega⟩, ⟨by omega, by omega⟩, fun y8 e8 => ?_⟩
        rw [f19]
        refine fun _ => ⟨mt_I (by omega) (by omega), fun σ11 g11 => ?_⟩
        rw [g11, ml_up_up]
        have := ih (q + 1) (by omega) (by omega)
        have ev : mt_vl (fun j => τ 218 (100 * w + j)) i (q + 1) = 10 * mt_vl (fun j => τ 218 (100 * w + j)) i q + (τ 218 (100 * w + (i + q)) - 48) := rfl
        rw [ev] at this
        rw [e8, show 10 * mt_vl (fun j => τ 218 (100 * w + j)) i q + τ 218 (100 * w + (i + q)) - 48 = 10 * mt_vl (fun j => τ 218 (100 * w + j)) i q + (τ 218 (100 * w + (i + q)) - 48) by omega, show i + (q : Int) + 1 = i + ((q + 1 : Nat) : Int) by omega]
        exact this
      · refine fun _ => ⟨fun _ => ?_, fun c => absurd rfl c⟩
        have hq2 : q = m := by
          rcases Nat.lt_or_ge q m with c | c
          · exfalso
            have d := hd q c
            have ec : mt_c (fun j => τ 218 (100 * w + j)) n (i + q) = τ 218 (100 * w + (i + q)) := by unfold mt_c; rw [if_pos (by omega)]
            omega
          · omega
        subst hq2
        unfold f_X12_readNumber_u38
        exact k
  unfold f_X12_readNumber f_X12_readNumber_u0
  refine ⟨20, ?_⟩
  have := L 20 0 (by omega) (by omega)
  rw [Int.natCast_zero, Int.add_zero, ml_up_id e19] at this
  exact this
def mt_top : Int := 9000000000000000000
theorem s_plus {Q : Int → ml_St → Prop} {τ : ml_St} {a b x y : Int} (ha : a = min mt_top x) (hb : b = min mt_top y) (x0 : 0 ≤ x) (y0 : 0 ≤ y) (k : I64 (min mt_top (x + y)) → Q (min mt_top (x + y)) τ) : f_X12_plus τ a b Q := by
  unfold mt_top at *
  have e1 : w64 (9000000000000000000 - b) = 9000000000000000000 - b := w64_id ⟨by omega, by omega⟩
  have k := k ⟨by omega, by omega⟩
  unfold f_X12_plus f_X12_plus_u0
  rw [e1]
  refine ⟨fun c => ?_, fun c => ?_⟩
  · unfold f_X12_plus_u19
    rw [w64_id ⟨by omega, by omega⟩, show a + b = min 9000000000000000000 (x + y) by omega]
    exact k
  · unfold f_X12_plus_u19
    rw [show (9000000000000000000 : Int) = min 9000000000000000000 (x + y) by omega]
    exact k
theorem mt_mul_top {x n : Int} (x0 : 0 ≤ x) (n0 : 0 ≤ n) : min mt_top (min mt_top x * n) = min mt_top (n * x) := by
  rw [Int.mul_comm n x]
  by_cases c : x ≤ mt_top
  · rw [show min mt_top x = x by omega]
  · rw [show min mt_top x = mt_top by omega]
    by_cases n1 : n = 0
    · subst n1; simp
    · have h1 : mt_top * 1 ≤ mt_top * n := Int.mul_le_mul_of_nonneg_left (by omega) (by unfold mt_top; omega)
      have h2 : mt_top * n ≤ x * n := Int.mul_le_mul_of_nonneg_right (by omega) n0
      omega
theorem s_times {Q : Int → ml_St → Prop} {τ : ml_St} {a n x : Int} (ha : a = min mt_top x) (x0 : 0 ≤ x) (n0 : 0 ≤ n) (k : I64 (min mt_top (n * x)) → Q (min mt_top (n * x)) τ) : f_X12_times τ a n Q := by
  have e := mt_mul_top x0 n0
  rw [← ha] at e
  have k : Q (min mt_top (a * n)) τ := by
    have h0 : 0 ≤ n * x := Int.mul_nonneg n0 x0
    have := k ⟨by unfold mt_top; omega, by unfold mt_top; omega⟩
    rw [e]; exact this
  have a0 : 0 ≤ a := by unfold mt_top at ha; omega
  unfold f_X12_times f_X12_times_u0
  refine ⟨fun c => ?_, fun c => ⟨c, fun d => ?_, fun d => ?_⟩⟩
  · subst c
    unfold f_X12_times_u22 f_X12_times_u25
    rw [Int.zero_mul] at k ⊢
    rw [w64_id ⟨by omega, by omega⟩]
    have : min mt_top 0 = 0 := by unfold mt_top; omega
    rw [this] at k
    exact k
  · have e1 : Int.tdiv 9000000000000000000 a = 9000000000000000000 / a := Int.tdiv_eq_ediv_of_nonneg (by omega)
    have q0 : 0 ≤ (9000000000000000000 : Int) / a := Int.ediv_nonneg (by omega) a0
    have q1 : (9000000000000000000 : Int) / a ≤ 9000000000000000000 := Int.ediv_le_self _ (by omega)
    rw [e1, w64_id ⟨by omega, by omega⟩] at d
    have h1 : n * a ≤ 9000000000000000000 := (Int.le_ediv_iff_mul_le (by omega)).1 d
    have h0 : 0 ≤ n * a := Int.mul_nonneg n0 a0
    unfold f_X12_times_u22 f_X12_times_u25
    rw [Int.mul_comm] at h1 h0
    rw [w64_id ⟨by omega, by omega⟩]
    rw [show min mt_top (a * n) = a * n by unfold mt_top; omega] at k
    exact k
  · have e1 : Int.tdiv 9000000000000000000 a = 9000000000000000000 / a := Int.tdiv_eq_ediv_of_nonneg (by omega)
    have q0 : 0 ≤ (9000000000000000000 : Int) / a := Int.ediv_nonneg (by omega) a0
    have q1 : (9000000000000000000 : Int) / a ≤ 9000000000000000000 := Int.ediv_le_self _ (by omega)
    rw [e1, w64_id ⟨by omega, by omega⟩] at d
    have h1 : ¬ n * a ≤ 9000000000000000000 := fun c => d ((Int.le_ediv_iff_mul_le (by omega)).2 c)
    unfold f_X12_times_u25
    rw [Int.mul_comm] at h1
    rw [show min mt_top (a * n) = 9000000000000000000 by unfold mt_top; omega] at k
    exact k
