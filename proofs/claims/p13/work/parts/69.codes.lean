/-! number, codeOf, isAlike, areAlike -/
theorem mb_R_pos : ∀ n, 1 ≤ mb_R n
  | 0 => Nat.le_refl 1
  | 1 => Nat.le_refl 1
  | n + 2 => by
    have := mb_R_pos n
    show 1 ≤ (n + 1) * mb_R n
    exact Nat.le_trans (by omega) (Nat.mul_le_mul (show 1 ≤ n + 1 by omega) this)
theorem mb_pc10 {o : Nat} (h : o < 1024) : mb_pc 16 o = mb_pc 10 o := by
  have := mb_all_e 1024 mb_pc_10 o h
  simpa using this
theorem mb_pc_le : ∀ k n, mb_pc k n ≤ k := by
  intro k
  induction k with
  | zero => intro n; exact Nat.le_refl 0
  | succ k ih => intro n; have := ih (n / 2); unfold mb_pc; omega
theorem mb_andn {a k : Nat} (ha : a < 2147483648) (hk : k < 2147483648) : b_and (a : Int) (b_xor (k : Int) (-1)) = ((a ^^^ (a &&& k) : Nat) : Int) := by
  have e : (Int32.ofInt (a : Int) &&& (Int32.ofInt (k : Int) ^^^ Int32.ofInt (-1))).toBitVec.toNat = a ^^^ (a &&& k) := by
    have q : ∀ x y : BitVec 32, x &&& (y ^^^ (-1#32)) = x ^^^ (x &&& y) := by
      intro x y
      rw [show (-1#32) = BitVec.allOnes 32 by decide]
      ext i hi
      rw [BitVec.getElem_and, BitVec.getElem_xor, BitVec.getElem_xor, BitVec.getElem_and, BitVec.getElem_allOnes]
      cases x[i] <;> cases y[i] <;> rfl
    have q2 : (Int32.ofInt (a : Int) &&& (Int32.ofInt (k : Int) ^^^ Int32.ofInt (-1))).toBitVec = (Int32.ofInt (a : Int)).toBitVec &&& ((Int32.ofInt (k : Int)).toBitVec ^^^ (-1#32)) := rfl
    rw [q2, q, BitVec.toNat_xor, BitVec.toNat_and, mb_n ha, mb_n hk]
  unfold b_and b_xor
  rw [Int32.ofInt_toInt, mb_i, e]
  rw [e]
  exact Nat.xor_lt_two_pow (n := 31) ha (Nat.lt_of_le_of_lt Nat.and_le_left ha)
theorem mb_shl2 : ∀ e : Nat, e < 10 → b_shl 2 (e : Int) = ((2 ^ (e + 1) : Nat) : Int) := by decide +kernel
theorem s_number {Q : Int → ml_St → Prop} {th h : Int} {σ : ml_St} {f : Int → Int} (h2 : 2 ≤ h) (h5 : h ≤ 5) (hf : mt_M h f) (ra : mt_eq h (σ (th + 1)) f) (k : Q (mt_num h f : Int) σ) : f_X9_number σ th h Q := by
  have L : ∀ (N e o s : Nat), (e : Int) + N = 2 * h → mt_op h f e o → mt_nm f N e o s < 945 → Q (mt_nm f N e o s : Int) σ → f_X9_number_u13 Q (f_X9_number_u88 Q th) th (N + 1) σ h s o e := by
    intro N
    induction N with
    | zero =>
      intro e o s he p hs k
      unfold f_X9_number_u13
      refine ⟨mt_i (by omega) (by omega), fun _ => k, fun c => absurd c (by omega)⟩
    | succ N ih =>
      intro e o s he p hs k
      have hB := (mt_nm_B h5 hf (N + 1) e o s (by omega) p).1
      have hs2 : s < 945 := by
        have := Nat.mul_le_mul_left s (mb_R_pos (mb_pc 10 o))
        omega
      have eb : b_and (b_shr (o : Int) (e : Int)) 1 = if o.testBit e then 1 else 0 := mb_t_n (by have := p.1; omega) (by omega)
      unfold f_X9_number_u13
      rw [eb]
      unfold mt_nm at k hs
      refine ⟨mt_i (by omega) (by omega), fun c => absurd c (by omega), fun _ => ?_⟩
      by_cases q : o.testBit e = true
      · rw [if_pos q] at k hs
        rw [if_pos q]
        obtain ⟨g1, g2, g3, g4⟩ := mt_op_p h5 hf p q (by omega)
        obtain ⟨k1, k2, k3⟩ := mb_k p.1 (by omega) p.2.1 q
        have k5 := (k3 (f e).toNat (by omega) (by omega)).2 g3
        have hB2 := (mt_nm_B h5 hf N (e + 1) _ (s * (mb_pc 10 o - 1) + mb_pc 10 (mb_bt o e (f e).toNat)) (by omega) g4).1
        have hs3 : s * (mb_pc 10 o - 1) + mb_pc 10 (mb_bt o e (f e).toNat) < 945 := by
          have := Nat.mul_le_mul_left (s * (mb_pc 10 o - 1) + mb_pc 10 (mb_bt o e (f e).toNat)) (mb_R_pos (mb_pc 10 (mb_rm o e (f e).toNat)))
          omega
        have pl := mb_pc_le 10 o
        have ef : f e = ((f e).toNat : Int) := by omega
        have ho := p.1
        refine ⟨fun c => absurd c (by omega), fun _ => ⟨by omega, by omega, ?_⟩⟩
        rw [ra e (by omega) (by omega)]
        generalize hp : (f e).toNat = y at *
        rw [ef]
        have p31 : (2 : Nat) ^ y < 2 ^ 10 := Nat.pow_lt_pow_right (by omega) (by omega)
        have pe31 : (2 : Nat) ^ e < 2 ^ 10 := Nat.pow_lt_pow_right (by omega) (by omega)
        have pz : 2 ^ y - 2 ^ (e + 1) ≤ 2 ^ y := Nat.sub_le _ _
        have pp : (2 : Nat) ^ (e + 1) ≤ 2 ^ y := Nat.pow_le_pow_right (by omega) (by omega)
        have e1 : b_shl 1 (y : Int) - b_shl 2 (e : Int) = ((2 ^ y - 2 ^ (e + 1) : Nat) : Int) := by
          rw [mb_shl (by omega), mb_shl2 e (by omega), mb_c pp]
        rw [e1]
        intro _
        refine ⟨⟨by omega, by omega⟩, fun y6 g6 => ?_⟩
        rw [mb_and (by omega) (by omega)] at g6
        have g6 : y6 = ((mb_bt o e y : Nat) : Int) := g6
        subst g6
        have hbt : mb_bt o e y < 1024 := Nat.lt_of_le_of_lt Nat.and_le_left ho
        refine s_bitCount (by omega) ?_
        rw [mb_sw_pc ho, mb_pc10 ho]
        have em : (s : Int) * ((mb_pc 10 o : Nat) - 1) = ((s * (mb_pc 10 o - 1) : Nat) : Int) := by
          rw [show ((mb_pc 10 o : Nat) : Int) - 1 = ((mb_pc 10 o - 1 : Nat) : Int) by omega, Int.natCast_mul]
        rw [em]
        refine fun _ => ⟨⟨by omega, by omega⟩, ⟨by omega, by omega⟩, ?_⟩
        refine s_bitCount (by omega) ?_
        rw [mb_sw_pc hbt, mb_pc10 hbt]
        refine fun _ => ⟨⟨by omega, by omega⟩, fun y12 g12 => ⟨by omega, by omega, ?_⟩⟩
        rw [ra e (by omega) (by omega), ef]
        intro _ y14 g14
        rw [mb_shl (by omega), mb_shl (by omega), mb_or (by omega) (by omega), mb_andn (by omega) (Nat.or_lt_two_pow (n := 31) (by omega) (by omega))] at g14
        have g14 : y14 = ((mb_rm o e y : Nat) : Int) := g14
        subst g14
        unfold f_X9_number_u82
        refine ⟨mt_i (by omega) (by omega), fun y1 e1 => ?_⟩
        have e12 : y12 = ((s * (mb_pc 10 o - 1) + mb_pc 10 (mb_bt o e y) : Nat) : Int) := by rw [g12]; rfl
        subst e12
        have e1' : y1 = ((e + 1 : Nat) : Int) := by rw [e1]; rfl
        subst e1'
        exact ih (e + 1) _ _ (by omega) g4 hs k
      · rw [if_neg q] at k hs
        rw [if_neg q]
        refine ⟨fun _ => ?_, fun c => absurd rfl c⟩
        unfold f_X9_number_u82
        refine ⟨mt_i (by omega) (by omega), fun y1 e1 => ?_⟩
        have e1' : y1 = ((e + 1 : Nat) : Int) := by rw [e1]; rfl
        subst e1'
        exact ih (e + 1) o s (by omega) (mt_op_s h5 hf (by omega) p (by simpa using q)) hs k
  unfold f_X9_number f_X9_number_u0
  have l2 : (1 : Nat) ≤ 2 ^ (2 * h).toNat := Nat.two_pow_pos _
  have l10 : (2 : Nat) ^ (2 * h).toNat ≤ 2 ^ 10 := Nat.pow_le_pow_right (by omega) (by omega)
  have e0 : b_shl 1 (2 * h) - 1 = ((2 ^ (2 * h).toNat - 1 : Nat) : Int) := by
    rw [show 2 * h = (((2 * h).toNat : Nat) : Int) by omega, mb_shl (by omega)]
    rw [show ((((2 * h).toNat : Nat) : Int)).toNat = (2 * h).toNat by omega]
    omega
  rw [e0]
  refine ⟨mt_i (by omega) (by omega), ⟨by omega, by omega⟩, fun y3 g3 => ⟨(2 * h).toNat + 1, ?_⟩⟩
  subst g3
  exact L (2 * h).toNat 0 _ 0 (by omega) (mt_op_0 (by omega) h5 hf) (mt_num_lt h2 h5 hf) k
/-- the model's code -/
def mt_code (f : Int → Int) : Nat → Int
  | 0 => 0
  | n + 1 => 10 * mt_code f n + f n
def mt_cd (h : Int) (f : Int → Int) : Int := mt_code f (2 * h).toNat
theorem mt_code_B {h : Int} {f : Int → Int} (h5 : h ≤ 5) (hf : mt_M h f) : ∀ n : Nat, (n : Int) ≤ 2 * h → 0 ≤ mt_code f n ∧ mt_code f n < ((10 ^ n : Nat) : Int) := by
  intro n
  induction n with
  | zero => intro _; unfold mt_code; exact ⟨by omega, by decide⟩
  | succ n ih =>
    intro hn
    have g := hf n (by omega) (by omega)
    have i := ih (by omega)
    unfold mt_code
    rw [Nat.pow_succ, Int.natCast_mul]
    omega
theorem mt_code_inj {h : Int} {f g : Int → Int} (h5 : h ≤ 5) (hf : mt_M h f) (hg : mt_M h g) : ∀ n : Nat, (n : Int) ≤ 2 * h → mt_code f n = mt_code g n → ∀ e : Nat, e < n → f e = g e := by
  intro n
  induction n with
  | zero => intro _ _ e he; omega
  | succ n ih =>
    intro hn q e he
    unfold mt_code at q
    have x := hf n (by omega) (by omega)
    have y := hg n (by omega) (by omega)
    by_cases z : e = n
    · subst z; omega
    · exact ih (by omega) (by omega) e (by omega)
theorem mt_code_eq {f g : Int → Int} : ∀ n : Nat, (∀ e : Nat, e < n → f e = g e) → mt_code f n = mt_code g n := by
  intro n
  induction n with
  | zero => intro _; rfl
  | succ n ih => intro q; unfold mt_code; rw [ih (fun e he => q e (by omega)), q n (by omega)]
theorem mt_cd_iff {h : Int} {f g : Int → Int} (h2 : 0 ≤ h) (h5 : h ≤ 5) (hf : mt_M h f) (hg : mt_M h g) : mt_cd h f = mt_cd h g ↔ mt_eq h f g := by
  constructor
  · intro q e e0 e1
    have := mt_code_inj h5 hf hg (2 * h).toNat (by omega) q e.toNat (by omega)
    rw [show ((e.toNat : Nat) : Int) = e by omega] at this
    exact this
  · intro q
    exact mt_code_eq _ (fun e he => q e (by omega) (by omega))
theorem s_codeOf {Q : Int → ml_St → Prop} {m h : Int} {τ : ml_St} {f : Int → Int} (h2 : 2 ≤ h) (h5 : h ≤ 5) (r : 0 ≤ m ∧ m < 64) (th : τ 215 2 = h) (hf : mt_M h f) (ra : ∀ e, 0 ≤ e → e < 2 * h → τ 227 (10 * m + e) = f e) (k : Q (mt_cd h f) τ) : f_X12_codeOf τ m Q := by
  have L : ∀ (N : Nat) (n : Nat), (n : Int) ≤ 2 * h → 2 * h - n < N → f_X12_codeOf_u5 Q (f_X12_codeOf_u42 Q) N τ m (mt_code f n) n := by
    intro N
    induction N with
    | zero => intro n n1 hN; omega
    | succ N ih =>
      intro n n1 hN
      unfold f_X12_codeOf_u5
      rw [th]
      refine fun _ => ⟨mt_i (by omega) (by omega), fun c => ?_, fun c => ⟨mt_i (by omega) (by omega), mt_i (by omega) (by omega), by omega, by omega, ?_⟩⟩
      · have : n = (2 * h).toNat := by omega
        subst this
        exact k
      · rw [ra n (by omega) (by omega)]
        intro _ y9 e9
        refine ⟨mt_i (by omega) (by omega), fun y10 e10 => ?_⟩
        have b := mt_code_B h5 hf (n + 1) (by omega)
        have l : (10 : Nat) ^ (n + 1) ≤ 10 ^ 10 := Nat.pow_le_pow_right (by omega) (by omega)
        have e : y9 = mt_code f (n + 1) := by
          rw [e9, w64_al]
          exact w64_id ⟨by unfold mt_code at b; omega, by unfold mt_code at b; omega⟩
        have e2 : y10 = ((n + 1 : Nat) : Int) := by omega
        rw [e, e2]
        exact ih (n + 1) (by omega) (by omega)
  unfold f_X12_codeOf f_X12_codeOf_u0
  exact ⟨(2 * h).toNat + 1, L _ 0 (by omega) (by omega)⟩
/-! alike -/
def mt_al (v w : Int → Int) (a : Int) : Nat → Int
  | 0 => a
  | n + 1 => if mt_al v w a n = 0 then 0 else if v n = w n then 1 else 0
def mt_alike (h : Int) (v w : Int → Int) : Int := mt_al v w (if v 20 = w 20 then 1 else 0) (2 * h).toNat
theorem mt_al_i {v w : Int → Int} {a : Int} (ha : a = 0 ∨ a = 1) : ∀ n : Nat, (mt_al v w a n = 0 ∨ mt_al v w a n = 1) ∧ (mt_al v w a n = 1 ↔ a = 1 ∧ ∀ e : Nat, e < n → v e = w e) := by
  intro n
  induction n with
  | zero => exact ⟨ha, ⟨fun c => ⟨c, fun e he => absurd he (by omega)⟩, fun c => c.1⟩⟩
  | succ n ih =>
    obtain ⟨i1, i2⟩ := ih
    unfold mt_al
    by_cases q : mt_al v w a n = 0
    · rw [if_pos q]
      refine ⟨Or.inl rfl, fun c => absurd c (by omega), fun c => ?_⟩
      have := i2.2 ⟨c.1, fun e he => c.2 e (by omega)⟩
      omega
    · rw [if_neg q]
      have q1 : mt_al v w a n = 1 := i1.resolve_left q
      obtain ⟨j1, j2⟩ := i2.1 q1
      by_cases z : v n = w n
      · rw [if_pos z]
        refine ⟨Or.inr rfl, fun _ => ⟨j1, fun e he => ?_⟩, fun _ => rfl⟩
        by_cases y : e = n
        · subst y; exact z
        · exact j2 e (by omega)
      · rw [if_neg z]
        exact ⟨Or.inl rfl, fun c => absurd c (by omega), fun c => absurd (c.2 n (by omega)) z⟩
theorem s_isAlike {Q : Int → ml_St → Prop} {th p h : Int} {σ : ml_St} {v w : Int → Int} (h2 : 2 ≤ h) (h5 : h ≤ 5) (wv : mt_wv h σ th v) (ww : mt_wv h σ p w) (k : Q (mt_alike h v w) σ) : f_X9_isAlike σ th p h Q := by
  have L : ∀ (a : Int) (N : Nat) (n : Nat), a = (if v 20 = w 20 then 1 else 0) → (n : Int) ≤ 2 * h → 2 * h - n < N → f_X9_isAlike_u21 Q (f_X9_isAlike_u62 Q th p) th p N σ h (mt_al v w a n) n := by
    intro a N
    induction N with
    | zero => intro n ha n1 hN; omega
    | succ N ih =>
      intro n ha n1 hN
      obtain ⟨i1, i2⟩ := mt_al_i (v := v) (w := w) (a := a) (by rw [ha]; split <;> omega) n
      unfold f_X9_isAlike_u21
      refine ⟨mt_i (by omega) (by omega), fun c => ?_, fun c => ?_⟩
      · have : n = (2 * h).toNat := by omega
        subst this
        subst ha
        exact k
      have nx : ∀ s0, s0 = mt_al v w a (n + 1) → f_X9_isAlike_u55 Q (f_X9_isAlike_u21 Q (f_X9_isAlike_u62 Q th p) th p N) th p σ h n s0 := by
        intro s0 es
        unfold f_X9_isAlike_u55
        refine ⟨mt_i (by omega) (by omega), fun y1 e1 => ?_⟩
        have e1 : y1 = ((n + 1 : Nat) : Int) := by omega
        rw [es, e1]
        exact ih (n + 1) ha (by omega) (by omega)
      refine ⟨fun d => ?_, fun d => ⟨by omega, by omega, fun _ => ⟨by omega, by omega, ?_⟩⟩⟩
      · unfold f_X9_isAlike_u54
        refine nx 0 ?_
        unfold mt_al
        rw [if_pos d]
      · rw [(wv.1 n (by omega) (by omega)).1, (ww.1 n (by omega) (by omega)).1]
        refine fun _ => ⟨fun g => ?_, fun g => ?_⟩
        · unfold f_X9_isAlike_u54
          refine nx 0 ?_
          unfold mt_al
          rw [if_neg d, if_neg g]
        · refine nx 1 ?_
          unfold mt_al
          rw [if_neg d, if_pos g]
  unfold f_X9_isAlike f_X9_isAlike_u0
  rw [wv.2.1, ww.2.1]
  refine fun _ _ => ⟨fun c => ?_, fun c => ?_⟩
  · unfold f_X9_isAlike_u17
    exact ⟨(2 * h).toNat + 1, L 0 _ 0 (by rw [if_neg c]) (by omega) (by omega)⟩
  · unfold f_X9_isAlike_u17
    exact ⟨(2 * h).toNat + 1, L 1 _ 0 (by rw [if_pos c]) (by omega) (by omega)⟩
theorem s_areJoinedAlike {Q : Int → ml_St → Prop} {x1 x2 h : Int} {τ : ml_St} {v w : Int → Int} (h2 : 2 ≤ h) (h5 : h ≤ 5) (r1 : 0 ≤ x1 ∧ x1 < 64) (r2 : 0 ≤ x2 ∧ x2 < 64) (th : τ 215 2 = h) (wv : mt_mv h τ x1 v) (ww : mt_mv h τ x2 w) (k1 : (∀ e : Nat, e < (2 * h).toNat → v e = w e) → Q 1 τ) (k0 : (¬ ∀ e : Nat, e < (2 * h).toNat → v e = w e) → Q 0 τ) : f_X12_areJoinedAlike τ x1 x2 Q := by
  have L : ∀ (N : Nat) (n : Nat), (n : Int) ≤ 2 * h → 2 * h - n < N → (∀ e : Nat, e < n → v e = w e) → f_X12_areJoinedAlike_u2 Q (f_X12_areJoinedAlike_u37 Q) (f_X12_areJoinedAlike_u45 Q) N τ x1 x2 n := by
    intro N
    induction N with
    | zero => intro n n1 hN; omega
    | succ N ih =>
      intro n n1 hN hq
      unfold f_X12_areJoinedAlike_u2
      rw [th]
      refine fun _ => ⟨mt_i (by omega) (by omega), fun c => ?_, fun c => ⟨mt_i (by omega) (by omega), mt_i (by omega) (by omega), by omega, by omega, ?_⟩⟩
      · have : n = (2 * h).toNat := by omega
        subst this
        exact k1 hq
      · rw [(wv.1 n (by omega) (by omega)).1, (ww.1 n (by omega) (by omega)).1]
        refine fun _ => ⟨mt_i (by omega) (by omega), mt_i (by omega) (by omega), by omega, by omega, fun _ => ⟨fun g => ⟨mt_i (by omega) (by omega), fun y1 e1 => ?_⟩, fun g => ?_⟩⟩
        · have e1 : y1 = ((n + 1 : Nat) : Int) := by omega
          rw [e1]
          refine ih (n + 1) (by omega) (by omega) (fun e he => ?_)
          by_cases z : e = n
          · subst z; exact g
          · exact hq e (by omega)
        · exact k0 (fun c => g (c n (by omega)))
  unfold f_X12_areJoinedAlike f_X12_areJoinedAlike_u0
  exact ⟨(2 * h).toNat + 1, L _ 0 (by omega) (by omega) (fun e he => absurd he (by omega))⟩
theorem s_areAlike {Q : Int → ml_St → Prop} {x1 x2 h : Int} {τ : ml_St} {v w : Int → Int} (h2 : 2 ≤ h) (h5 : h ≤ 5) (r1 : 0 ≤ x1 ∧ x1 < 64) (r2 : 0 ≤ x2 ∧ x2 < 64) (th : τ 215 2 = h) (wv : mt_mv h τ x1 v) (ww : mt_mv h τ x2 w) (k : Q (mt_alike h v w) τ) : f_X12_areAlike τ x1 x2 Q := by
  obtain ⟨i1, i2⟩ := mt_al_i (v := v) (w := w) (a := if v 20 = w 20 then 1 else 0) (by split <;> omega) (2 * h).toNat
  unfold f_X12_areAlike f_X12_areAlike_u0
  rw [wv.2.1, ww.2.1]
  unfold mt_alike at k
  refine ⟨r1.1, r1.2, fun _ => ⟨r2.1, r2.2, fun _ => ⟨fun c => ?_, fun c => ?_⟩⟩⟩
  · unfold f_X12_areAlike_u29 f_X12_areAlike_u30
    rcases i1 with i1 | i1
    · rw [i1] at k; exact k
    · have := (i2.1 i1).1
      rw [if_neg c] at this
      omega
  · rw [if_pos c] at k i1 i2
    refine s_areJoinedAlike h2 h5 r1 r2 th wv ww (fun g => ?_) (fun g => ?_)
    · refine fun _ => ⟨fun d => absurd d (by omega), fun _ => ?_⟩
      unfold f_X12_areAlike_u30
      rw [i2.2 ⟨rfl, g⟩] at k; exact k
    · refine fun _ => ⟨fun _ => ?_, fun d => absurd rfl d⟩
      unfold f_X12_areAlike_u29 f_X12_areAlike_u30
      rcases i1 with i1 | i1
      · rw [i1] at k; exact k
      · exact absurd (i2.1 i1).2 g
