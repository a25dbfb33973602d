/-! BITS of masks -/
theorem mb_n {a : Nat} (h : a < 2147483648) : (Int32.ofInt (a : Int)).toBitVec.toNat = a := by
  show (BitVec.ofInt 32 (a : Int)).toNat = a
  rw [BitVec.toNat_ofInt]
  omega
theorem mb_i {x : Int32} (h : x.toBitVec.toNat < 2147483648) : x.toInt = (x.toBitVec.toNat : Int) := by
  show x.toBitVec.toInt = _
  rw [BitVec.toInt_eq_toNat_of_lt (by omega)]
theorem mb_or {a b : Nat} (ha : a < 2147483648) (hb : b < 2147483648) : b_or (a : Int) (b : Int) = ((a ||| b : Nat) : Int) := by
  have e : (Int32.ofInt (a : Int) ||| Int32.ofInt (b : Int)).toBitVec.toNat = a ||| b := by
    rw [Int32.toBitVec_or, BitVec.toNat_or, mb_n ha, mb_n hb]
  unfold b_or
  rw [mb_i, e]
  rw [e]
  exact Nat.or_lt_two_pow (n := 31) ha hb
theorem mb_and {a b : Nat} (ha : a < 2147483648) (hb : b < 2147483648) : b_and (a : Int) (b : Int) = ((a &&& b : Nat) : Int) := by
  have e : (Int32.ofInt (a : Int) &&& Int32.ofInt (b : Int)).toBitVec.toNat = a &&& b := by
    rw [Int32.toBitVec_and, BitVec.toNat_and, mb_n ha, mb_n hb]
  unfold b_and
  rw [mb_i, e]
  rw [e]
  exact Nat.lt_of_le_of_lt Nat.and_le_left ha
theorem mb_31 {r : Nat} (h : r < 32) : (Int32.ofInt (r : Int) &&& 31) = Int32.ofInt (r : Int) := by
  apply Int32.toBitVec_inj.1
  apply BitVec.eq_of_toNat_eq
  rw [Int32.toBitVec_and, BitVec.toNat_and, mb_n (by omega)]
  show r &&& 31 = r
  exact Nat.and_two_pow_sub_one_of_lt_two_pow (n := 5) h
theorem mb_sm : ∀ r : Nat, r < 32 → ((Int32.ofInt (r : Int)).toBitVec.smod (32 : BitVec 32)).toNat = r := by decide +kernel
theorem mb_msb {a : Nat} (ha : a < 2147483648) : (Int32.ofInt (a : Int)).toBitVec.msb = false := by
  rw [BitVec.msb_eq_false_iff_two_mul_lt, mb_n ha]
  omega
theorem mb_shr {a r : Nat} (ha : a < 2147483648) (hr : r < 32) : b_shr (a : Int) (r : Int) = ((a >>> r : Nat) : Int) := by
  have e : (Int32.ofInt (a : Int) >>> Int32.ofInt (r : Int)).toBitVec.toNat = a >>> r := by
    rw [Int32.toBitVec_shiftRight, BitVec.toNat_sshiftRight'_of_msb_false (mb_msb ha), mb_n ha]
    exact congrArg (a >>> ·) (mb_sm r hr)
  unfold b_shr
  rw [mb_31 hr, mb_i, e]
  rw [e]
  exact Nat.lt_of_le_of_lt (Nat.shiftRight_le a r) ha
theorem mb_shl {r : Nat} (hr : r < 31) : b_shl 1 (r : Int) = ((2 ^ r : Nat) : Int) := by
  have h : ∀ r : Nat, r < 31 → b_shl 1 (r : Int) = ((2 ^ r : Nat) : Int) := by decide +kernel
  exact h r hr
/-- bit r of m -/
def mb_t (m r : Int) : Int := b_and (b_shr m r) 1
theorem mb_t_n {a r : Nat} (ha : a < 2147483648) (hr : r < 32) : mb_t (a : Int) (r : Int) = if a.testBit r then 1 else 0 := by
  unfold mb_t
  rw [mb_shr ha hr]
  have e : b_and ((a >>> r : Nat) : Int) ((1 : Nat) : Int) = (((a >>> r) &&& 1 : Nat) : Int) := mb_and (Nat.lt_of_le_of_lt (Nat.shiftRight_le a r) ha) (by omega)
  rw [show (1 : Int) = ((1 : Nat) : Int) from rfl, e, Nat.testBit]
  rw [Nat.and_comm]
  have h2 : 1 &&& (a >>> r) = 0 ∨ 1 &&& (a >>> r) = 1 := by
    rw [Nat.and_comm, Nat.and_one_is_mod]
    omega
  rcases h2 with q | q <;> rw [q] <;> rfl
/-- masks -/
def mb_m (k : Nat) (m : Int) : Prop := 0 ≤ m ∧ m < 2 ^ k
theorem mb_or_m {k : Nat} (hk : k ≤ 31) {a b : Int} (ha : mb_m k a) (hb : mb_m k b) : mb_m k (b_or a b) ∧ ∀ j : Int, 0 ≤ j → j < 32 → mb_t (b_or a b) j = if mb_t a j = 1 ∨ mb_t b j = 1 then 1 else 0 := by
  obtain ⟨a, rfl⟩ := Int.eq_ofNat_of_zero_le ha.1
  obtain ⟨b, rfl⟩ := Int.eq_ofNat_of_zero_le hb.1
  have p : (2 : Nat) ^ k ≤ 2 ^ 31 := Nat.pow_le_pow_right (by omega) hk
  have ha2 : a < 2 ^ k := by have := ha.2; exact_mod_cast this
  have hb2 : b < 2 ^ k := by have := hb.2; exact_mod_cast this
  have ha3 : a < 2147483648 := by omega
  have hb3 : b < 2147483648 := by omega
  have hc : a ||| b < 2 ^ k := Nat.or_lt_two_pow ha2 hb2
  rw [mb_or ha3 hb3]
  refine ⟨⟨by omega, by exact_mod_cast hc⟩, fun j j0 j1 => ?_⟩
  obtain ⟨j, rfl⟩ := Int.eq_ofNat_of_zero_le j0
  rw [mb_t_n (by omega) (by omega), mb_t_n ha3 (by omega), mb_t_n hb3 (by omega), Nat.testBit_or]
  cases a.testBit j <;> cases b.testBit j <;> rfl
theorem mb_shl_m {k : Nat} (hk : k ≤ 31) {r : Int} (h0 : 0 ≤ r) (h1 : r < k) : mb_m k (b_shl 1 r) ∧ ∀ j : Int, 0 ≤ j → j < 32 → mb_t (b_shl 1 r) j = if j = r then 1 else 0 := by
  obtain ⟨r, rfl⟩ := Int.eq_ofNat_of_zero_le h0
  have h1 : r < k := by omega
  have p : (2 : Nat) ^ r < 2 ^ k := Nat.pow_lt_pow_right (by omega) h1
  have p2 : (2 : Nat) ^ k ≤ 2 ^ 31 := Nat.pow_le_pow_right (by omega) hk
  rw [mb_shl (by omega)]
  refine ⟨⟨Int.natCast_nonneg _, by exact_mod_cast p⟩, fun j j0 j1 => ?_⟩
  obtain ⟨j, rfl⟩ := Int.eq_ofNat_of_zero_le j0
  rw [mb_t_n (by omega) (by omega), Nat.testBit_two_pow]
  by_cases c : r = j
  · subst c; simp
  · have c2 : ¬ ((j : Int) = (r : Int)) := by omega
    simp [c, c2]
theorem mb_0 (j : Int) : mb_t 0 j = 0 := by
  unfold mb_t b_shr b_and
  have : (Int32.ofInt 0 >>> (Int32.ofInt j &&& 31)) = 0 := by
    apply Int32.toBitVec_inj.1
    rw [Int32.toBitVec_shiftRight]
    show BitVec.sshiftRight' (0#32) _ = 0#32
    simp [BitVec.sshiftRight']
  rw [this]
  decide
theorem mb_t_01 (m j : Int) : mb_t m j = 0 ∨ mb_t m j = 1 := by
  unfold mb_t b_and
  generalize Int32.ofInt (b_shr m j) = z
  have e : (z &&& Int32.ofInt 1).toBitVec.toNat = z.toBitVec.toNat % 2 := by
    rw [Int32.toBitVec_and, BitVec.toNat_and]
    show z.toBitVec.toNat &&& 1 = _
    exact Nat.and_one_is_mod _
  rw [mb_i (by rw [e]; omega), e]
  omega
