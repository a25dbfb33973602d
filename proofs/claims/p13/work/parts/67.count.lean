/-! COUNTS of bits, the number of a matching -/
def mb_pc : Nat → Nat → Nat
  | 0, _ => 0
  | k + 1, n => n % 2 + mb_pc k (n / 2)
theorem mb_u {a : Nat} (h : a < 2147483648) : (Int32.ofInt (a : Int)).toUInt32.toNat = a := by
  show (Int32.ofInt (a : Int)).toBitVec.toNat = a
  exact mb_n h
theorem mb_ushr {a r : Nat} (ha : a < 2147483648) (hr : r < 32) : b_ushr (a : Int) (r : Int) = ((a >>> r : Nat) : Int) := by
  have e31 : (Int32.ofInt (r : Int)).toUInt32 &&& Int32.toUInt32 31 = (Int32.ofInt (r : Int)).toUInt32 := by
    apply UInt32.toNat_inj.1
    rw [UInt32.toNat_and, mb_u (by omega)]
    show r &&& 31 = r
    exact Nat.and_two_pow_sub_one_of_lt_two_pow (n := 5) hr
  have e : ((Int32.ofInt (a : Int)).toUInt32 >>> (Int32.ofInt (r : Int)).toUInt32).toNat = a >>> r := by
    rw [UInt32.toNat_shiftRight, mb_u ha, mb_u (by omega), Nat.mod_eq_of_lt hr]
  unfold b_ushr
  rw [e31]
  have e2 : ((Int32.ofInt (a : Int)).toUInt32 >>> (Int32.ofInt (r : Int)).toUInt32).toInt32.toBitVec.toNat = a >>> r := e
  rw [mb_i, e2]
  rw [e2]
  exact Nat.lt_of_le_of_lt (Nat.shiftRight_le a r) ha
def mb_fc (n : Nat) (k : Nat → Bool) : Bool := match n with
  | 0 => k 0
  | m + 1 => k (m + 1)
theorem mb_fc_e (n : Nat) (k : Nat → Bool) : mb_fc n k = k n := by cases n <;> rfl
def mb_b2 (n : Nat) : Nat := n - ((n >>> 1) &&& 1431655765)
def mb_b4 (y2 : Nat) : Nat := (y2 &&& 858993459) + ((y2 >>> 2) &&& 858993459)
def mb_b6 (y4 : Nat) : Nat := (y4 + (y4 >>> 4)) &&& 252645135
def mb_b8 (y6 : Nat) : Nat := y6 + (y6 >>> 8)
def mb_b10 (y8 : Nat) : Nat := y8 + (y8 >>> 16)
def mb_pcf : Nat → Nat → Nat → Nat → Bool
  | 0, _, acc, r => Nat.beq acc r
  | k + 1, n, acc, r => mb_fc (acc + n % 2) fun a => mb_fc (n / 2) fun n => mb_pcf k n a r
def mb_chk (n : Nat) : Bool := mb_fc n fun n => mb_fc (mb_b2 n) fun y2 => mb_fc (mb_b4 y2) fun y4 => mb_fc (mb_b6 y4) fun y6 => mb_fc (mb_b8 y6) fun y8 => mb_fc (mb_b10 y8 &&& 63) fun y10 => mb_pcf 16 n 0 y10
def mb_all (f : Nat → Bool) : Nat → Bool
  | 0 => true
  | n + 1 => match f n with
    | true => mb_all f n
    | false => false
theorem mb_all_e {f : Nat → Bool} : ∀ n, mb_all f n = true → ∀ a, a < n → f a = true := by
  intro n
  induction n with
  | zero => intro _ a ha; omega
  | succ n ih =>
    intro h a ha
    unfold mb_all at h
    split at h
    · rename_i q
      by_cases z : a = n
      · subst z; exact q
      · exact ih h a (by omega)
    · exact absurd h (by decide)
theorem mb_pcf_e : ∀ (k n acc r : Nat), mb_pcf k n acc r = true → r = acc + mb_pc k n := by
  intro k
  induction k with
  | zero => intro n acc r h; unfold mb_pcf at h; unfold mb_pc; have := Nat.eq_of_beq_eq_true h; omega
  | succ k ih =>
    intro n acc r h
    unfold mb_pcf at h
    rw [mb_fc_e, mb_fc_e] at h
    have := ih _ _ _ h
    unfold mb_pc
    omega
def mb_sw (n : Nat) : Nat := mb_b10 (mb_b8 (mb_b6 (mb_b4 (mb_b2 n)))) &&& 63
theorem mb_sw_1 : mb_all mb_chk 1024 = true := by decide +kernel
theorem mb_sw_pc {n : Nat} (h : n < 1024) : mb_sw n = mb_pc 16 n := by
  have g := mb_all_e 1024 mb_sw_1 n h
  unfold mb_chk at g
  rw [mb_fc_e, mb_fc_e, mb_fc_e, mb_fc_e, mb_fc_e, mb_fc_e] at g
  have := mb_pcf_e 16 n 0 _ g
  unfold mb_sw
  omega
theorem mb_c {a b : Nat} (h : b ≤ a) : (a : Int) - (b : Int) = ((a - b : Nat) : Int) := by omega
theorem s_bitCount {Q : Int → ml_St → Prop} {σ : ml_St} {n : Nat} (h : n < 1073741824) (k : Q (mb_sw n : Int) σ) : f_J6_bitCount_0f7a4 σ (n : Int) Q := by
  have k : Q (((mb_b10 (mb_b8 (mb_b6 (mb_b4 (mb_b2 n)))) &&& 63 : Nat)) : Int) σ := k
  have ni : ∀ x : Nat, x < 2147483648 → I32 (x : Int) := fun x _ => ⟨by omega, by omega⟩
  have u : ∀ a : Nat, a < 2147483648 → ∀ r : Nat, r < 32 → b_ushr (a : Int) (r : Int) = ((a >>> r : Nat) : Int) := fun a ha r hr => mb_ushr ha hr
  have an : ∀ a b : Nat, a < 2147483648 → b < 2147483648 → b_and (a : Int) (b : Int) = ((a &&& b : Nat) : Int) := fun a b ha hb => mb_and ha hb
  have s1 := Nat.shiftRight_le n 1
  have l1 : n >>> 1 &&& 1431655765 ≤ n >>> 1 := Nat.and_le_left
  have e2 : (n : Int) - (b_and (b_ushr n 1) 1431655765) = (mb_b2 n : Int) := by
    have := u n (by omega) 1 (by omega)
    rw [show ((1 : Nat) : Int) = 1 from rfl] at this
    rw [this]
    have := an (n >>> 1) 1431655765 (by omega) (by omega)
    rw [show ((1431655765 : Nat) : Int) = 1431655765 from rfl] at this
    rw [this, mb_c (by omega)]
    rfl
  have b2 : mb_b2 n < 1073741824 := by unfold mb_b2; omega
  have s2 := Nat.shiftRight_le (mb_b2 n) 2
  have l2 : mb_b2 n >>> 2 &&& 858993459 ≤ 858993459 := Nat.and_le_right
  have l2' : mb_b2 n &&& 858993459 ≤ 858993459 := Nat.and_le_right
  have e4 : (b_and (mb_b2 n) 858993459) + (b_and (b_ushr (mb_b2 n) 2) 858993459) = (mb_b4 (mb_b2 n) : Int) := by
    have h1 := an (mb_b2 n) 858993459 (by omega) (by omega)
    have h2 := u (mb_b2 n) (by omega) 2 (by omega)
    have h3 := an (mb_b2 n >>> 2) 858993459 (by omega) (by omega)
    rw [show ((858993459 : Nat) : Int) = 858993459 from rfl] at h1 h3
    rw [show ((2 : Nat) : Int) = 2 from rfl] at h2
    rw [h1, h2, h3]
    rfl
  have b4 : mb_b4 (mb_b2 n) ≤ 1717986918 := by unfold mb_b4; omega
  have b4' : mb_b4 (mb_b2 n) ≤ 1717986918 ∧ mb_b4 (mb_b2 n) >>> 4 ≤ 107374182 := by
    refine ⟨b4, ?_⟩
    rw [Nat.shiftRight_eq_div_pow]
    omega
  have e6 : (mb_b4 (mb_b2 n) : Int) + b_ushr (mb_b4 (mb_b2 n)) 4 = ((mb_b4 (mb_b2 n) + mb_b4 (mb_b2 n) >>> 4 : Nat) : Int) := by
    have h2 := u (mb_b4 (mb_b2 n)) (by omega) 4 (by omega)
    rw [show ((4 : Nat) : Int) = 4 from rfl] at h2
    rw [h2]; rfl
  have e6' : b_and ((mb_b4 (mb_b2 n) + mb_b4 (mb_b2 n) >>> 4 : Nat) : Int) 252645135 = (mb_b6 (mb_b4 (mb_b2 n)) : Int) := by
    have h2 := an (mb_b4 (mb_b2 n) + mb_b4 (mb_b2 n) >>> 4) 252645135 (by omega) (by omega)
    rw [show ((252645135 : Nat) : Int) = 252645135 from rfl] at h2
    rw [h2]; rfl
  generalize mb_b4 (mb_b2 n) = y4 at *
  have b6 : mb_b6 y4 ≤ 252645135 := Nat.and_le_right
  have s6 := Nat.shiftRight_le (mb_b6 y4) 8
  have e8 : (mb_b6 y4 : Int) + b_ushr (mb_b6 y4) 8 = (mb_b8 (mb_b6 y4) : Int) := by
    have h2 := u (mb_b6 y4) (by omega) 8 (by omega)
    rw [show ((8 : Nat) : Int) = 8 from rfl] at h2
    rw [h2]; rfl
  have b8 : mb_b8 (mb_b6 y4) ≤ 505290270 := by unfold mb_b8; omega
  have s8 := Nat.shiftRight_le (mb_b8 (mb_b6 y4)) 16
  have e10 : (mb_b8 (mb_b6 y4) : Int) + b_ushr (mb_b8 (mb_b6 y4)) 16 = (mb_b10 (mb_b8 (mb_b6 y4)) : Int) := by
    have h2 := u (mb_b8 (mb_b6 y4)) (by omega) 16 (by omega)
    rw [show ((16 : Nat) : Int) = 16 from rfl] at h2
    rw [h2]; rfl
  have b10 : mb_b10 (mb_b8 (mb_b6 y4)) ≤ 1010580540 := by unfold mb_b10; omega
  have e11 : b_and (mb_b10 (mb_b8 (mb_b6 y4)) : Int) 63 = ((mb_b10 (mb_b8 (mb_b6 y4)) &&& 63 : Nat) : Int) := an _ 63 (by omega) (by omega)
  unfold f_J6_bitCount_0f7a4 f_J6_bitCount_0f7a4_u0
  rw [e2]
  refine ⟨ni _ (by omega), fun y2 g2 => ?_⟩
  subst g2
  rw [e4]
  refine ⟨ni _ (by omega), fun z4 g4 => ?_⟩
  subst g4
  rw [e6]
  refine ⟨ni _ (by omega), fun z6 g6 => ?_⟩
  rw [e6'] at g6
  subst g6
  rw [e8]
  refine ⟨ni _ (by omega), fun z8 g8 => ?_⟩
  subst g8
  rw [e10]
  refine ⟨ni _ (by omega), fun z10 g10 => ?_⟩
  subst g10
  rw [e11]
  exact k
