/-- counting the bits of a set of words -/
def mb_swf (n : Nat) (k : Nat → Bool) : Bool := mb_fc n fun n => mb_fc (mb_b2 n) fun y2 => mb_fc (mb_b4 y2) fun y4 => mb_fc (mb_b6 y4) fun y6 => mb_fc (mb_b8 y6) fun y8 => mb_fc (mb_b10 y8 &&& 63) k
theorem mb_swf_e (n : Nat) (k : Nat → Bool) : mb_swf n k = k (mb_sw n) := by
  unfold mb_swf mb_sw
  rw [mb_fc_e, mb_fc_e, mb_fc_e, mb_fc_e, mb_fc_e, mb_fc_e]
def mb_ck2 (a : Nat) : Bool := mb_swf a fun s => mb_fc (256 * a) fun a8 => mb_all (fun b => mb_swf (a8 + b) fun r => mb_swf b fun q => Nat.beq r (s + q)) 256
theorem mb_sw_2 : mb_all mb_ck2 256 = true := by decide +kernel
theorem mb_pc_s : ∀ (k n : Nat), mb_pc (k + 1) n = mb_pc k n + n / 2 ^ k % 2 := by
  intro k
  induction k with
  | zero => intro n; unfold mb_pc; simp; rfl
  | succ k ih =>
    intro n
    have e : n / 2 / 2 ^ k = n / 2 ^ (k + 1) := by rw [Nat.div_div_eq_div_mul, Nat.pow_succ, Nat.mul_comm]
    rw [show mb_pc (k + 1 + 1) n = n % 2 + mb_pc (k + 1) (n / 2) from rfl, ih (n / 2), show mb_pc (k + 1) n = n % 2 + mb_pc k (n / 2) from rfl, e]
    omega
theorem mt_bc_pc {n : Nat} (hn : n < 2147483648) : ∀ k : Nat, k ≤ 31 → mt_bc (n : Int) k = (mb_pc k n : Nat) := by
  intro k
  induction k with
  | zero => intro _; rfl
  | succ k ih =>
    intro hk
    unfold mt_bc
    rw [ih (by omega), mb_t_n hn (by omega), mb_pc_s, Nat.testBit_eq_decide_div_mod_eq]
    by_cases q : n / 2 ^ k % 2 = 1
    · rw [q]; rfl
    · rw [show n / 2 ^ k % 2 = 0 by omega]; rfl
theorem mt_bc_s (set : Int) (n : Nat) : mt_bc set (n + 1) = mt_bc set n + mb_t set n := rfl
theorem mt_bc_c {s t : Int} : ∀ k : Nat, (∀ v : Nat, v < k → mb_t s v = mb_t t v) → mt_bc s k = mt_bc t k := by
  intro k
  induction k with
  | zero => intro _; rfl
  | succ k ih => intro h; rw [mt_bc_s, mt_bc_s, ih (fun v hv => h v (by omega)), h k (by omega)]
theorem mb_pc_a (k n : Nat) : ∀ j : Nat, mb_pc (k + j) n = mb_pc k n + mb_pc j (n / 2 ^ k) := by
  intro j
  induction j with
  | zero => rfl
  | succ j ih => rw [← Nat.add_assoc, mb_pc_s, mb_pc_s, ih, Nat.div_div_eq_div_mul, ← Nat.pow_add, Nat.add_assoc]
theorem mt_bc_m {set : Int} {a : Nat} : ∀ k : Nat, 0 ≤ mt_bc set a ∧ mt_bc set a ≤ mt_bc set (a + k) := by
  have z : ∀ a : Nat, 0 ≤ mt_bc set a := by
    intro a
    induction a with
    | zero => exact Int.le_refl 0
    | succ a ih => rw [mt_bc_s]; rcases mb_t_01 set a with q | q <;> omega
  intro k
  refine ⟨z a, ?_⟩
  induction k with
  | zero => exact Int.le_refl _
  | succ k ih =>
    rw [← Nat.add_assoc, mt_bc_s]; rcases mb_t_01 set ((a + k : Nat) : Int) with q | q <;> omega
theorem mt_bc_n {set : Int} {a : Nat} : ∀ k : Nat, (∀ v : Nat, a ≤ v → v < a + k → mb_t set v = 0) → mt_bc set (a + k) = mt_bc set a := by
  intro k
  induction k with
  | zero => intro _; rfl
  | succ k ih =>
    intro h
    rw [← Nat.add_assoc, mt_bc_s]
    rw [h (a + k) (by omega) (by omega), ih (fun v v0 v1 => h v v0 (by omega))]
    omega
/-- by counting all bits -/
theorem mt_bc_sw {set : Int} (s0 : 0 ≤ set) (s1 : set < 65536) : (mb_sw set.toNat : Int) = mt_bc set 16 := by
  obtain ⟨n, rfl⟩ := Int.eq_ofNat_of_zero_le s0
  rw [Int.toNat_natCast]
  have g := mb_all_e 256 mb_sw_2 (n / 256) (by omega)
  unfold mb_ck2 at g
  rw [mb_swf_e, mb_fc_e] at g
  have g := mb_all_e 256 g (n % 256) (by omega)
  rw [mb_swf_e, mb_swf_e, show 256 * (n / 256) + n % 256 = n by omega] at g
  have g := Nat.eq_of_beq_eq_true g
  have p0 : mb_pc 8 0 = 0 := by decide
  have a1 : mb_pc 16 (n / 256) = _ := mb_pc_a 8 (n / 256) 8
  have a2 : mb_pc 16 (n % 256) = _ := mb_pc_a 8 (n % 256) 8
  have a3 : mb_pc 16 n = _ := mb_pc_a 8 n 8
  rw [show (2 : Nat) ^ 8 = 256 from rfl, show n / 256 / 256 = 0 by omega, p0] at a1
  rw [show (2 : Nat) ^ 8 = 256 from rfl, show n % 256 / 256 = 0 by omega, p0] at a2
  rw [show (2 : Nat) ^ 8 = 256 from rfl] at a3
  have c : mt_bc (n : Int) 8 = mt_bc ((n % 256 : Nat) : Int) 8 := mt_bc_c 8 (fun v hv => by
    rw [mb_t_n (by omega) (by omega), mb_t_n (by omega) (by omega), show (256 : Nat) = 2 ^ 8 from rfl, Nat.testBit_mod_two_pow, decide_eq_true hv, Bool.true_and])
  rw [mt_bc_pc (by omega) 8 (by omega), mt_bc_pc (by omega) 8 (by omega)] at c
  rw [g, mb_sw_pc (by omega), mb_sw_pc (by omega), mt_bc_pc (by omega) 16 (by omega)]
  omega
theorem s_startRow {Q : ml_St → Prop} {σ0 : ml_St} (k : ∀ σ, (∀ j, j ≠ 55 → j ≠ 62 → σ j = σ0 j) → (∀ b, b ≠ 11 → σ 55 b = σ0 55 b) → σ 55 11 = 0 → (∀ i, 0 ≤ i → i < 2838 → σ 62 i = if i = 0 then 1 else 0) → Q σ) : f_X7_startRow σ0 Q := by
  unfold f_X7_startRow f_X7_startRow_u0
  refine s_fill64 (by omega) (fun σ1 f1 x1 => ⟨by omega, by omega, fun σ2 s2 σ3 s3 => ?_⟩)
  have e2 : ∀ j, j ≠ 62 → σ2 j = σ0 j := fun j hj => by rw [s2, ml_up_k hj, f1 j hj]
  refine k σ3 (fun j h1 h2 => by rw [s3, ml_up_k h1, e2 j h2]) (fun b hb => by rw [s3, ml_up_i hb, e2 55 (by omega)]) (by rw [s3, ml_up_same]) (fun i i0 i1 => ?_)
  rw [s3, ml_up_k (by omega), s2]
  by_cases z : i = 0
  · rw [z, ml_up_same]; rfl
  · rw [ml_up_i z, if_neg z]; exact x1 i i0 (by omega)
theorem mt_bit_told {set told w : Int} (t0 : 0 ≤ told) (t16 : told ≤ 16) (s0 : 0 ≤ set) (s1 : set < ((2 ^ told.toNat : Nat) : Int)) (w0 : 0 ≤ w) (w1 : w < 32) (hb : mb_t set w ≠ 0) : w < told := by
  rcases Int.lt_or_le w told with c | c
  · exact c
  · exfalso
    obtain ⟨n, rfl⟩ := Int.eq_ofNat_of_zero_le s0
    obtain ⟨v, rfl⟩ := Int.eq_ofNat_of_zero_le w0
    have p : (2 : Nat) ^ told.toNat ≤ 2 ^ v := Nat.pow_le_pow_right (by omega) (by omega)
    have p16 : (2 : Nat) ^ told.toNat ≤ 2 ^ 16 := Nat.pow_le_pow_right (by omega) (by omega)
    rw [mb_t_n (by omega) (by omega), Nat.testBit_lt_two_pow (by omega)] at hb
    exact hb rfl
theorem mt_bit_some {set : Int} (s0 : 1 ≤ set) (s1 : set < 65536) : ∃ w : Nat, w < 16 ∧ mb_t set w = 1 := by
  obtain ⟨n, rfl⟩ := Int.eq_ofNat_of_zero_le (show 0 ≤ set by omega)
  rcases Classical.em (∃ w : Nat, w < 16 ∧ mb_t (n : Int) w = 1) with c | c
  · exact c
  · exfalso
    have : n = 0 := by
      apply Nat.eq_of_testBit_eq
      intro j
      rw [Nat.zero_testBit]
      by_cases q : j < 16
      · rcases hq : n.testBit j with _ | _
        · rfl
        · exact absurd ⟨j, q, by rw [mb_t_n (by omega) (by omega), hq]; rfl⟩ c
      · exact Nat.testBit_lt_two_pow (Nat.lt_of_lt_of_le (show n < 2 ^ 16 by omega) (Nat.pow_le_pow_right (by omega) (by omega)))
    omega
theorem ic_9G {h told set frm : Int} {mk : Int → Int → Int} {σ : ml_St} (b : ic_B9 h told mk set frm 0 σ) (hf : σ 55 2 ≤ frm) (r0 : 0 ≤ σ 55 11) (r1 : σ 55 11 ≤ 1000) : ic_G h told σ := by
  obtain ⟨b0, b1, b2, b3, b4, b5, b6, b7, b8, b9, b10⟩ := b
  exact ⟨b1, b2, fun i i0 i1 => ⟨(b3 i i0 i1).1, (b3 i i0 i1).2.1⟩, b4, b5, b6, fun p i p0 p1 i0 i1 => b8 p i p0 i0 i1 (by omega), b9, r0, r1⟩
/-- what the words that are made stand for: both sides of it -/
theorem IC_cv {h told ts cap : Int} {tb cl pr sz : Int → Int} {T : Int → Int → Int} {σ : ml_St} (i : IC h told ts cap tb cl pr sz T σ) {w : Int} (w0 : 0 ≤ w) (w1 : w < told) : mt_cv h (mt_mk h T sz w) (mt_cn mt_one T sz w) := by
  obtain ⟨a, b, c, d, e, r, s⟩ := i
  have t16 := a.2.2.2.2.2
  have := mt_cv_mk (T := T) (sz := sz) a.2.2.1 a.2.2.2.1 w.toNat (by omega) (fun v hv => (e v (by omega) (by omega)).1.1)
  rw [show ((w.toNat : Nat) : Int) = w by omega] at this
  exact this
theorem IC_fs {h told ts cap : Int} {tb cl pr sz : Int → Int} {T : Int → Int → Int} {σ σ' : ml_St} (f : mt_fs σ σ') (hS : ic_S h told (mt_mk h T sz) σ') (i : IC h told ts cap tb cl pr sz T σ) : IC h told ts cap tb cl pr sz T σ' := by
  obtain ⟨a, b, c, d, e, r, s⟩ := i
  have t16 : told ≤ 16 := a.2.2.2.2.2
  exact ⟨ic_A_k (f 1 (by omega)) a, ic_B_k (f 2 (by omega)) (f 3 (by omega)) b, ic_C_k (f 4 (by omega)) (f 5 (by omega)) c, ic_D_k (fun w w0 w1 => by rw [f _ (by omega)]) d, fun w w0 w1 => ⟨ic_T_k (by rw [f _ (by omega)]) (by rw [f _ (by omega)]) (f _ (by omega)) (e w w0 w1).1, mt_wv_eq (f _ (by omega)) (f _ (by omega)) (f _ (by omega)) (e w w0 w1).2⟩, ic_R_k (fun w w0 w1 => ⟨by rw [f _ (by omega)], by rw [f _ (by omega)], f _ (by omega)⟩) r, hS⟩
theorem s_open {Q : ml_St → Prop} {h told ts cap set : Int} {tb cl pr sz : Int → Int} {T : Int → Int → Int} {σ0 : ml_St} (i : IC h told ts cap tb cl pr sz T σ0) (s1 : 1 ≤ set) (st : set < ((2 ^ told.toNat : Nat) : Int)) (md : ∀ w, 0 ≤ w → w < told → mb_t set w ≠ 0 → mt_md told (mt_mk h T sz) w) (b6 : mt_bc set told.toNat ≤ 6) (k : ∀ σ, IC h told ts cap tb cl pr sz T σ → ic_G h told σ → ic_X h told (mt_mk h T sz) σ → σ 55 0 = set → mt_fs σ0 σ → Q σ) : f_X7_open σ0 set (σ0 1 11) Q := by
  obtain ⟨a1, a2, h2, h5, t0, t16⟩ := i.1
  have p16 : (2 : Nat) ^ told.toNat ≤ 2 ^ 16 := Nat.pow_le_pow_right (by omega) (by omega)
  have told1 : 1 ≤ told := by
    obtain ⟨w, w1, w2⟩ := mt_bit_some s1 (by omega)
    have := mt_bit_told t0 t16 (by omega) st (show 0 ≤ (w : Int) by omega) (by omega) (by omega)
    omega
  rw [a1]
  unfold f_X7_open f_X7_open_u0
  refine fun _ => ⟨fun c σ3 s3 σ4 s4 => ⟨20, ?_⟩, fun c => ?_⟩
  · -- afresh
    have f4 : ∀ j, j ≠ 55 → σ4 j = σ0 j := fun j hj => by rw [s4, ml_up_k hj, s3, ml_up_k hj]
    have U74 : ∀ σ : ml_St, mt_fs σ0 σ → σ 55 0 = set → 1 ≤ σ 55 1 → σ 55 1 ≤ 6 → (∀ a, 0 ≤ a → a < σ 55 1 → mt_md told (mt_mk h T sz) (σ 56 a)) → ic_L set told (σ 55 1) (σ 56) → f_X7_open_u74 Q σ h := by
      intro σ f e0 l0 l1 hl hL
      unfold f_X7_open_u74
      refine s_fill32 (by omega) (fun σ1 f1 x1 σ2 g2 => s_beStraight h2 h5 (fun σ3 f3 w3 => ?_))
      have e2 : ∀ j, j ≠ 55 → j ≠ 57 → σ2 j = σ j := fun j h1 h3 => by rw [g2, ml_up_k h1, f1 j h3]
      have e55 : ∀ b, b ≠ 2 → σ2 55 b = σ 55 b := fun b hb => by rw [g2, ml_up_i hb, f1 55 (by omega)]
      refine s_keep (p := 0) (by rw [f3 55 (by omega) (by omega) (by omega), g2, ml_up_same]) (by omega) (by omega) (fun σ4 f4 fb4 p4 lo4 hi4 => ⟨950, ?_⟩) (by omega)
      have fs4 : mt_fs σ0 σ4 := fun j hj => by rw [f4 j (by omega) (by omega), f3 j (by omega) (by omega) (by omega), e2 j (by omega) (by omega), f j hj]
      have v0 : σ4 55 0 = set := by rw [fb4 0 (by omega), f3 55 (by omega) (by omega) (by omega), e55 0 (by omega), e0]
      have v1 : σ4 55 1 = σ 55 1 := by rw [fb4 1 (by omega), f3 55 (by omega) (by omega) (by omega), e55 1 (by omega)]
      have v2 : σ4 55 2 = 1 := by rw [p4]; rfl
      have v56 : σ4 56 = σ 56 := by rw [f4 56 (by omega) (by omega), f3 56 (by omega) (by omega) (by omega), e2 56 (by omega) (by omega)]
      have v57 : ∀ x, 0 ≤ x → x < 945 → σ4 57 x = -1 := fun x x0 x945 => by rw [f4 57 (by omega) (by omega), f3 57 (by omega) (by omega) (by omega), g2, ml_up_k (by omega)]; exact x1 x x0 (by omega)
      have b9 : ic_B9 h told (mt_mk h T sz) set 0 0 σ4 := by
        refine ⟨v0, by rw [v1]; exact l0, by rw [v1]; exact l1, by rw [v1, v56]; exact hl, by omega, by omega, fun x x0 x945 => by rw [v57 x x0 x945, v2]; omega, fun q q0 q1 => by omega, fun q a q0 a0 a1 hq => by omega, fun q q0 q1 => ?_, ?_⟩
        · have : q = 0 := by omega
          subst this
          refine ⟨mt_str h, mt_str_M h5, fun e e0 e1 => ?_⟩
          have := hi4 e e0 (by omega)
          rw [show 10 * (0 : Int) + e = 10 * 0 + e by omega]
          rw [this]
          exact (w3.1 e e0 e1).1
        · rw [f4 64 (by omega) (by omega), w3.2.1]
          unfold mt_str; rw [if_neg (by omega)]
      have b9Y : ic_Y h (mt_mk h T sz) 0 0 (fun _ => mt_str h) σ4 := by
        unfold ic_Y
        rw [v2]
        refine ⟨⟨by omega, fun _ _ _ => rfl, fun p _ _ => mt_str_M h5, fun p q p0 pq q1 => by omega, fun p a p0 a0 a1 z => by unfold mt_bl at z; omega, fun q q1 q2 => by omega⟩, fun p a p0 a0 a1 z => by unfold mt_bl at z; omega, fun p e p0 p1 e0 e1 => ?_, fun q q0 q1 => by omega, fun x x0 x1 n1 => absurd (v57 x x0 x1) n1⟩
        have := hi4 e e0 (by omega)
        rw [show p = 0 by omega, this]
        exact (w3.1 e e0 e1).1
      have KE : ∀ σ1 frm S, mt_fs σ0 σ1 → ic_B9 h told (mt_mk h T sz) set frm 0 σ1 → ic_Y h (mt_mk h T sz) frm 0 S σ1 → σ1 55 2 = frm → σ1 55 1 = σ 55 1 → σ1 56 = σ 56 → f_X7_open_u137 Q σ1 := by
        intro σ frm S f b Y hf eL el
        unfold f_X7_open_u137
        refine s_startRow (fun σ1 f1 fb1 z1 r1 => ?_)
        have b1 : ic_B9 h told (mt_mk h T sz) set frm 0 σ1 := by
          unfold ic_B9
          rw [fb1 0 (by omega), fb1 1 (by omega), fb1 2 (by omega), f1 56 (by omega) (by omega), f1 57 (by omega) (by omega), f1 58 (by omega) (by omega), f1 59 (by omega) (by omega), f1 61 (by omega) (by omega), f1 64 (by omega) (by omega)]
          exact b
        have fs1 : mt_fs σ0 σ1 := fun j hj => by rw [f1 j (by omega) (by omega), f j hj]
        have G := ic_9G b1 (by rw [fb1 2 (by omega)]; omega) (by omega) (by omega)
        have X : ic_X h told (mt_mk h T sz) σ1 := by
          refine ⟨?_, ⟨S, ?_⟩, fun p l p0 p1 l0 l1 => ?_⟩
          · rw [fb1 0 (by omega), fb1 1 (by omega), f1 56 (by omega) (by omega), b.1, eL, el]; exact hL
          · unfold ic_Y at *
            rw [fb1 1 (by omega), fb1 2 (by omega), f1 56 (by omega) (by omega), f1 57 (by omega) (by omega), f1 58 (by omega) (by omega), f1 59 (by omega) (by omega), f1 61 (by omega) (by omega), hf]
            rw [hf] at Y; exact Y
          · have p9 : σ1 55 2 ≤ 946 := b1.2.2.2.2.2.1
            rw [z1, r1 _ (by omega) (by omega)]
            show _ = if p = 0 ∧ l = 0 then (1 : Int) else 0
            by_cases z : p = 0 ∧ l = 0
            · rw [if_pos z, if_pos (by omega)]
            · rw [if_neg z, if_neg (by omega)]
        exact k σ1 (IC_fs fs1 (Or.inr ⟨told1, G, X⟩) i) G X b1.1 fs1
      have L : ∀ (N : Nat) (frm : Int) (σ1 : ml_St) (S : Int → Int → Int), 0 ≤ frm → frm ≤ 946 → 946 - frm < N → mt_fs σ0 σ1 → ic_B9 h told (mt_mk h T sz) set frm 0 σ1 → ic_Y h (mt_mk h T sz) frm 0 S σ1 → σ1 55 1 = σ 55 1 → σ1 56 = σ 56 → frm ≤ σ1 55 2 → f_X7_open_u106 Q (f_X7_open_u137 Q) N σ1 h frm := by
        intro N
        induction N with
        | zero => intro frm σ1 S f0 f1 hN; omega
        | succ N ih =>
          intro frm σ S f0 f1 hN f b Y eL el hf
          unfold f_X7_open_u106
          refine fun _ => ⟨fun c2 => KE σ frm S f b Y (by omega) eL el, fun c2 => ⟨fun c3 => KE σ frm S f b Y (by have := b.2.2.2.2.2.1; omega) eL el, fun c3 => ?_⟩⟩
          refine s_leadOn (told := told) (set := set) (mk := mt_mk h T sz) (C := mt_cn mt_one T sz) h2 h5 t16 f0 (by omega) b Y (fun w hw => ?_) (fun σ4 S4 f4 b4 Y4 hp4 eL4 el4 => ⟨mt_I (by omega) (by omega), fun y e => ?_⟩)
          · have w0 := hw.1
            have w1 := hw.2.1
            refine ⟨?_, IC_cv i hw.1 hw.2.1⟩
            exact mt_wv_eq (f _ (by omega)) (f _ (by omega)) (f _ (by omega)) (IC_w i hw.1 hw.2.1).2.1
          · subst e
            exact ih (frm + 1) σ4 S4 (by omega) (by omega) (by omega) (mt_fs_t f f4) b4 Y4 (by rw [eL4, eL]) (by rw [el4, el]) (by omega)
      exact L 950 0 σ4 _ (by omega) (by omega) (by omega) fs4 b9 b9Y v1 v56 (by omega)
    -- the letters
    have mono : ∀ w : Nat, (w : Int) ≤ told → mt_bc set w ≤ mt_bc set told.toNat := fun w hw => by
      have := (mt_bc_m (set := set) (a := w) (told.toNat - w)).2
      rw [show w + (told.toNat - w) = told.toNat by omega] at this
      exact this
    have c16 : mt_bc set 16 = mt_bc set told.toNat := by
      have := mt_bc_n (set := set) (a := told.toNat) (16 - told.toNat) (fun v v0 v1 => by
        rcases mb_t_01 set v with q | q
        · exact q
        · have := mt_bit_told t0 t16 (by omega) st (show 0 ≤ (v : Int) by omega) (by omega) (by omega)
          omega)
      rw [show told.toNat + (16 - told.toNat) = 16 by omega] at this
      exact this
    have L0 : ∀ (N : Nat) (w : Nat) (σ : ml_St), w ≤ 16 → 16 - w < N → mt_fs σ0 σ → σ 55 0 = set → σ 55 1 = mt_bc set w → (∀ a, 0 ≤ a → a < σ 55 1 → mt_md told (mt_mk h T sz) (σ 56 a)) → (∀ v : Nat, v < w → mb_t set v = 1 → σ 56 (mt_bc set v) = v) → f_X7_open_u22 Q (f_X7_open_u74 Q) N σ set h w := by
      intro N
      induction N with
      | zero => intro w σ w1 hN; omega
      | succ N ih =>
        intro w σ w1 hN f e0 l0 hl hz
        unfold f_X7_open_u22
        have nx : ∀ σ, w < 16 → mt_fs σ0 σ → σ 55 0 = set → σ 55 1 = mt_bc set (w + 1) → (∀ a, 0 ≤ a → a < σ 55 1 → mt_md told (mt_mk h T sz) (σ 56 a)) → (∀ v : Nat, v < w + 1 → mb_t set v = 1 → σ 56 (mt_bc set v) = v) → f_X7_open_u68 Q (f_X7_open_u22 Q (f_X7_open_u74 Q) N) σ set h w := by
          intro σ hw f e0 l0 hl hz
          unfold f_X7_open_u68
          refine ⟨mt_I (by omega) (by omega), fun y e => ?_⟩
          have e : y = ((w + 1 : Nat) : Int) := by omega
          subst e
          exact ih (w + 1) σ (by omega) (by omega) f e0 l0 hl hz
        have bs : mt_bc set (w + 1) = mt_bc set w + mb_t set w := rfl
        have b0 := (mt_bc_m (set := set) (a := w) 0).1
        refine ⟨fun c2 => ?_, fun c2 => ⟨fun c3 => nx σ (by omega) f e0 (by rw [bs, l0]; have c3 : mb_t set w = 0 := c3; omega) hl (fun v hv => ?_), fun c3 _ => ?_⟩⟩
        · have w16 : w = 16 := by omega
          rw [w16, c16] at l0
          refine U74 σ f e0 ?_ (by omega) hl ⟨l0, fun v v0 v1 => hz v (by omega) v1⟩
          rcases Int.lt_or_le 0 (σ 55 1) with z | z
          · omega
          · exfalso
            obtain ⟨v, v1, v2⟩ := mt_bit_some s1 (by omega)
            have m1 := (mt_bc_m (set := set) (a := v + 1) (16 - (v + 1))).2
            rw [show v + 1 + (16 - (v + 1)) = 16 by omega, c16] at m1
            have m2 := (mt_bc_m (set := set) (a := v) 0).1
            have m3 : mt_bc set (v + 1) = mt_bc set v + mb_t set v := rfl
            omega
        · by_cases q : v = w
          · subst q; exact fun o => absurd o (by have c3 : mb_t set v = 0 := c3; omega)
          · exact hz v (by omega)
        · have wt : (w : Int) < told := mt_bit_told t0 t16 (by omega) st (by omega) (by omega) c3
          have c3' : mb_t set w = 1 := (mb_t_01 set w).resolve_left c3
          have mm := mono (w + 1) (by omega)
          refine ⟨fun c4 => by omega, fun c4 _ => ⟨by omega, by omega, fun σ6 s6 => ?_⟩⟩
          have e6 : σ6 55 = σ 55 := by rw [s6, ml_up_k (by omega)]
          rw [e6]
          refine fun _ => ⟨mt_I (by omega) (by omega), fun σ9 s9 => ?_⟩
          refine nx σ9 (by omega) (fun j hj => by rw [s9, ml_up_k (by omega), s6, ml_up_k (by omega), f j hj]) (by rw [s9, ml_up_i (by omega), e6, e0]) (by rw [s9, ml_up_same]; omega) (fun a a0 a1 => ?_) (fun v hv v1 => ?_)
          · rw [s9, ml_up_same] at a1
            rw [s9, ml_up_k (by omega), s6]
            by_cases q : a = σ 55 1
            · rw [q, ml_up_same]; exact md w (by omega) wt c3
            · rw [ml_up_i q]; exact hl a a0 (by omega)
          · rw [s9, ml_up_k (by omega), s6]
            by_cases q : v = w
            · rw [q, ← l0, ml_up_same]
            · have m1 := (mt_bc_m (set := set) (a := v + 1) (w - (v + 1))).2
              rw [show v + 1 + (w - (v + 1)) = w by omega] at m1
              have m3 : mt_bc set (v + 1) = mt_bc set v + mb_t set v := rfl
              rw [ml_up_i (by omega)]; exact hz v (by omega) v1
    refine L0 20 0 σ4 (by omega) (by omega) (fun j hj => f4 j (by omega)) (by rw [s4, ml_up_i (by omega), s3, ml_up_same]) (by rw [s4, ml_up_same]; rfl) (fun a a0 a1 => by rw [s4, ml_up_same] at a1; omega) (fun v hv => absurd hv (by omega))
  · -- the same as before
    rcases i.2.2.2.2.2.2 with z | z
    · omega
    · exact k σ0 i z.2.1 z.2.2 c.symm (fun _ _ => rfl)
/-- the letters that may be -/
def mt_ls (told : Int) (mk : Int → Int → Int) (set : Int) : Prop := 1 ≤ set ∧ set < ((2 ^ told.toNat : Nat) : Int) ∧ mt_bc set told.toNat ≤ 6 ∧ ∀ w, 0 ≤ w → w < told → mb_t set w ≠ 0 → mt_md told mk w
theorem s_openLetters {Q : Int → ml_St → Prop} {h told ts cap set : Int} {tb cl pr sz : Int → Int} {T : Int → Int → Int} {σ0 : ml_St} (i : IC h told ts cap tb cl pr sz T σ0) (k0 : ¬ mt_ls told (mt_mk h T sz) set → Q 0 σ0) (k1 : mt_ls told (mt_mk h T sz) set → ∀ σ, IC h told ts cap tb cl pr sz T σ → ic_G h told σ → ic_X h told (mt_mk h T sz) σ → σ 55 0 = set → mt_fs σ0 σ → Q 1 σ) : f_X11_openLetters σ0 set Q := by
  obtain ⟨a1, a2, h2, h5, t0, t16⟩ := i.1
  have p16 : (2 : Nat) ^ told.toNat ≤ 2 ^ 16 := Nat.pow_le_pow_right (by omega) (by omega)
  have esh : b_shl 1 told = ((2 ^ told.toNat : Nat) : Int) := by
    have := mb_shl (r := told.toNat) (by omega)
    rw [show ((told.toNat : Nat) : Int) = told by omega] at this
    exact this
  unfold f_X11_openLetters f_X11_openLetters_u0
  unfold f_X11_openLetters_u24
  rw [a2, esh]
  refine ⟨fun c => k0 (fun y => by have := y.1; omega), fun c _ => ⟨fun c2 => k0 (fun y => by have := y.2.1; omega), fun c2 => ?_⟩⟩
  rw [show set = ((set.toNat : Nat) : Int) by omega]
  refine s_bitCount (by omega) ?_
  rw [show ((set.toNat : Nat) : Int) = set by omega, mt_bc_sw (by omega) (by omega)]
  have c16 : mt_bc set 16 = mt_bc set told.toNat := by
    have := mt_bc_n (set := set) (a := told.toNat) (16 - told.toNat) (fun v v0 v1 => by
      rcases mb_t_01 set v with q | q
      · exact q
      · have := mt_bit_told t0 t16 (by omega) (show set < ((2 ^ told.toNat : Nat) : Int) by omega) (show 0 ≤ (v : Int) by omega) (by omega) (by omega)
        omega)
    rw [show told.toNat + (16 - told.toNat) = 16 by omega] at this
    exact this
  rw [c16]
  refine fun _ => ⟨fun b6 => ⟨20, ?_⟩, fun b6 => k0 (fun y => b6 y.2.2.1)⟩
  have L : ∀ (N : Nat) (w : Int), 0 ≤ w → w ≤ told → told - w < N → (∀ v, 0 ≤ v → v < w → mb_t set v ≠ 0 → mt_md told (mt_mk h T sz) v) → f_X11_openLetters_u28 Q (f_X11_openLetters_u52 Q) (f_X11_openLetters_u60 Q) N σ0 set w := by
    intro N
    induction N with
    | zero => intro w w0 w1 hN; omega
    | succ N ih =>
      intro w w0 w1 hN hm
      unfold f_X11_openLetters_u28
      rw [a2]
      have nx : w < told → (mb_t set w ≠ 0 → mt_md told (mt_mk h T sz) w) → f_X11_openLetters_u54 Q (f_X11_openLetters_u28 Q (f_X11_openLetters_u52 Q) (f_X11_openLetters_u60 Q) N) σ0 set w := by
        intro hw hm2
        unfold f_X11_openLetters_u54
        refine ⟨mt_I (by omega) (by omega), fun y e => ?_⟩
        subst e
        refine ih (w + 1) (by omega) (by omega) (by omega) (fun v v0 v1 hv => ?_)
        by_cases q : v = w
        · subst q; exact hm2 hv
        · exact hm v v0 (by omega) hv
      refine fun _ => ⟨fun c3 => ?_, fun c3 => ⟨fun c4 => nx (by omega) (fun z => absurd c4 z), fun c4 => c_isMade i (fun q _ => ⟨fun _ => nx (by omega) (fun _ => q), fun z => absurd z (by omega)⟩) (fun q _ => ⟨fun z => absurd rfl z, fun _ => ?_⟩)⟩⟩
      · unfold f_X11_openLetters_u60
        have hm' : ∀ v, 0 ≤ v → v < told → mb_t set v ≠ 0 → mt_md told (mt_mk h T sz) v := fun v v0 v1 hv => hm v v0 (by omega) hv
        exact fun _ => s_open i (by omega) (by omega) hm' b6 (k1 ⟨by omega, by omega, b6, hm'⟩)
      · unfold f_X11_openLetters_u52; exact k0 (fun y => q (y.2.2.2 w w0 (by omega) c4))
  exact L 20 0 (by omega) t0 (by omega) (fun v v0 v1 => absurd v1 (by omega))
