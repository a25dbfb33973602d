/-! THE STORE: object ids and places, all whole numbers; the heap is a picture of it -/
abbrev ml_St : Type := Int → Int → Int
def ml_up (σ : ml_St) (k i v : Int) : ml_St := fun a b => if a = k ∧ b = i then v else σ a b
def I32 (x : Int) : Prop := -2147483648 ≤ x ∧ x ≤ 2147483647
def I64 (x : Int) : Prop := -9223372036854775808 ≤ x ∧ x ≤ 9223372036854775807
def ml_B (x : Int) : Prop := 0 ≤ x ∧ x ≤ 1
def ml_I8 (x : Int) : Prop := -128 ≤ x ∧ x ≤ 127
theorem ml_B.i {x : Int} (h : ml_B x) : I32 x := ⟨by have := h.1; omega, by have := h.2; omega⟩
theorem ml_I8.i {x : Int} (h : ml_I8 x) : I32 x := ⟨by have := h.1; omega, by have := h.2; omega⟩
theorem I32.l {x : Int} (h : I32 x) : I64 x := ⟨by have := h.1; omega, by have := h.2; omega⟩
abbrev ml_lay (k : Int) : Nat × Nat := ml_layT k
def ml_at (n : Nat) (k : Int) (kd : Nat × Nat) : Prop := 1 ≤ k ∧ k ≤ n ∧ ml_lay k = kd
def ml_fv (base : Nat) (ty : FieldType) (x : Int) : Value := match ty with
  | .long => .long (Int64.ofInt x)
  | .object _ => if x = 0 then .null else .ref (base + x.toNat)
  | .array _ => if x = 0 then .null else .ref (base + x.toNat)
  | _ => .int (Int32.ofInt x)
def ml_ro (base : Nat) (x : Int) : Option Nat := if x = 0 then none else some (base + x.toNat)
def ml_cell (base : Nat) (cA : Nat → ClassId) (kd : Nat × Nat) (f : Int → Int) : va_E := match kd.1 with
  | 1 => .inl (cA 1, kd.2, .inl (fun j => Int32.ofInt (f j)))
  | 2 => .inl (cA 2, kd.2, .inl (fun j => Int32.ofInt (f j)))
  | 3 => .inl (cA 3, kd.2, .inl (fun j => Int32.ofInt (f j)))
  | 4 => .inl (cA 4, kd.2, .inr (.inl (fun j => Int64.ofInt (f j))))
  | 5 => .inl (cA 5, kd.2, .inr (.inr (.inr (.inr (fun j => ml_ro base (f j))))))
  | 6 => .inl (cA 6, kd.2, .inr (.inr (.inr (.inr (fun j => ml_ro base (f j))))))
  | t => .inr (t - 10, (List.range kd.2).map fun j => ml_fv base (ml_ty (t - 10) j) (f j))
def ml_cells (base : Nat) (cA : Nat → ClassId) (n : Nat) (σ : ml_St) : va_W := (List.range n).map fun i => (base + (i + 1), ml_cell base cA (ml_lay ((i : Int) + 1)) (σ ((i : Int) + 1)))
/-- what kind of number stands at a place: 1 int, 2 byte, 3 boolean, 4 long, else a reference -/
def ml_fe (ty : FieldType) : Nat := match ty with
  | .long => 4
  | .boolean => 3
  | .int => 1
  | .byte => 2
  | _ => 5
def ml_et (k j : Int) : Nat := if (ml_lay k).1 < 10 then (ml_lay k).1 else ml_fe (ml_ty ((ml_lay k).1 - 10) j.toNat)
def ml_rg (e : Nat) (x : Int) : Prop := match e with
  | 1 => I32 x
  | 2 => ml_I8 x
  | 3 => ml_B x
  | 4 => I64 x
  | _ => 0 ≤ x
def ml_ok (n : Nat) (σ : ml_St) : Prop := ∀ k j : Int, 1 ≤ k → k ≤ n → 0 ≤ j → ml_rg (ml_et k j) (σ k j)
def ml_RO (n : Nat) (σ : ml_St) : Prop := ∀ k j : Int, 1 ≤ k → k ≤ n → ml_rof k j ≠ 0 → σ k j = ml_rof k j
def ml_A (base : Nat) : Nat → Prop := fun q => base < q
def ml_tys (cA : Nat → ClassId) : List (ClassId × FieldType) := [(cA 1, .int), (cA 1, .int), (cA 2, .byte), (cA 3, .boolean), (cA 4, .long), (cA 5, .object "MirrorLane$Weave"), (cA 6, .object "MirrorLane$Word")]
theorem ml_cells_get {base : Nat} {cA : Nat → ClassId} {n : Nat} {σ : ml_St} {k : Int} {kd : Nat × Nat} (h : ml_at n k kd) : (ml_cells base cA n σ)[k.toNat - 1]? = some (base + k.toNat, ml_cell base cA kd (σ k)) := by
  obtain ⟨h1, h2, h3⟩ := h
  obtain ⟨i, rfl⟩ : ∃ i : Nat, k = (i : Int) + 1 := ⟨(k - 1).toNat, by omega⟩
  have e : ((i : Int) + 1).toNat = i + 1 := by omega
  have hi : i < n := by omega
  rw [e, ← h3]
  simp [ml_cells, hi]
theorem ml_cells_at {base : Nat} {cA : Nat → ClassId} {n : Nat} {σ : ml_St} {i : Nat} {q : Nat × va_E} (h : (ml_cells base cA n σ)[i]? = some q) : i < n ∧ q = (base + (i + 1), ml_cell base cA (ml_lay ((i : Int) + 1)) (σ ((i : Int) + 1))) := by
  have hi : i < n := by
    have := (List.getElem?_eq_some_iff.mp h).1
    simpa [ml_cells] using this
  refine ⟨hi, ?_⟩
  simp [ml_cells, hi] at h
  exact h.symm
theorem ml_cells_D (base : Nat) (cA : Nat → ClassId) (n : Nat) (σ : ml_St) : va_D (ml_A base) (ml_cells base cA n σ) := by
  constructor
  · intro i j p q hp hq e
    rw [(ml_cells_at hp).2, (ml_cells_at hq).2] at e
    have e : base + (i + 1) = base + (j + 1) := e
    omega
  · intro k q hq
    rw [(ml_cells_at hq).2]
    show base < base + (k + 1)
    omega
theorem ml_cells_set {base : Nat} {cA : Nat → ClassId} {n : Nat} {σ σ' : ml_St} {k : Int} {kd : Nat × Nat} {x : va_E} (h : ml_at n k kd) (hx : x = ml_cell base cA kd (σ' k)) (ho : ∀ a : Int, a ≠ k → σ' a = σ a) : (ml_cells base cA n σ).set (k.toNat - 1) (base + k.toNat, x) = ml_cells base cA n σ' := by
  obtain ⟨h1, h2, h3⟩ := h
  obtain ⟨i, rfl⟩ : ∃ i : Nat, k = (i : Int) + 1 := ⟨(k - 1).toNat, by omega⟩
  have e : ((i : Int) + 1).toNat = i + 1 := by omega
  subst hx
  rw [e, ← h3]
  apply List.ext_getElem?
  intro j
  rw [List.getElem?_set]
  by_cases hj : i + 1 - 1 = j
  · have hji : i = j := by omega
    subst hji
    have hi : i < n := by omega
    simp [ml_cells, hi]
  · rw [if_neg hj]
    by_cases hn : j < n
    · have hne : (j : Int) + 1 ≠ (i : Int) + 1 := by omega
      simp [ml_cells, hn, ho _ hne]
    · simp [ml_cells, hn]
theorem ml_cells_push (base : Nat) (cA : Nat → ClassId) (n : Nat) (σ : ml_St) : ml_cells base cA (n + 1) σ = ml_cells base cA n σ ++ [(base + (n + 1), ml_cell base cA (ml_lay ((n : Int) + 1)) (σ ((n : Int) + 1)))] := by
  simp [ml_cells, List.range_succ]
theorem ml_up_same (σ : ml_St) (k i v : Int) : ml_up σ k i v k i = v := by simp [ml_up]
theorem ml_up_k {σ : ml_St} {k i v a : Int} (h : a ≠ k) : ml_up σ k i v a = σ a := by funext b; simp [ml_up, h]
theorem ml_up_i {σ : ml_St} {k i v a b : Int} (h : b ≠ i) : ml_up σ k i v a b = σ a b := by simp [ml_up, h]
theorem ml_ok_up {n : Nat} {σ : ml_St} {k i v : Int} (h : ml_ok n σ) (hv : ml_rg (ml_et k i) v) : ml_ok n (ml_up σ k i v) := by
  intro a b h1 h2 h3
  by_cases e : a = k ∧ b = i
  · rw [e.1, e.2, ml_up_same]; exact hv
  · simp only [ml_up, e, if_false]; exact h a b h1 h2 h3
theorem ml_RO_up {n : Nat} {σ : ml_St} {k i v : Int} (h : ml_RO n σ) (hv : ml_rof k i = 0) : ml_RO n (ml_up σ k i v) := by
  intro a b h1 h2 h3
  by_cases e : a = k ∧ b = i
  · rw [e.1, e.2] at h3; exact absurd hv h3
  · simp only [ml_up, e, if_false]; exact h a b h1 h2 h3
theorem ml_32 {x : Int} (h : I32 x) : (Int32.ofInt x).toInt = x := Int32.toInt_ofInt_of_le (by have := h.1; omega) (by have := h.2; omega)
theorem ml_64 {x : Int} (h : I64 x) : (Int64.ofInt x).toInt = x := Int64.toInt_ofInt_of_le (by have := h.1; omega) (by have := h.2; omega)
theorem ml_r32 (x : Int32) : I32 x.toInt := ⟨Int32.le_toInt x, by have := Int32.toInt_lt x; omega⟩
theorem ml_r64 (x : Int64) : I64 x.toInt := ⟨Int64.le_toInt x, by have := Int64.toInt_lt x; omega⟩
theorem ml_lt {x y : Int} (hx : I32 x) (hy : I32 y) : Int32.ofInt x < Int32.ofInt y ↔ x < y := by rw [Int32.lt_iff_toInt_lt, ml_32 hx, ml_32 hy]
theorem ml_le {x y : Int} (hx : I32 x) (hy : I32 y) : Int32.ofInt x ≤ Int32.ofInt y ↔ x ≤ y := by rw [Int32.le_iff_toInt_le, ml_32 hx, ml_32 hy]
theorem ml_eq {x y : Int} (hx : I32 x) (hy : I32 y) : Int32.ofInt x = Int32.ofInt y ↔ x = y := by rw [← Int32.toInt_inj, ml_32 hx, ml_32 hy]
theorem ml_llt {x y : Int} (hx : I64 x) (hy : I64 y) : Int64.ofInt x < Int64.ofInt y ↔ x < y := by rw [Int64.lt_iff_toInt_lt, ml_64 hx, ml_64 hy]
theorem ml_leq {x y : Int} (hx : I64 x) (hy : I64 y) : Int64.ofInt x = Int64.ofInt y ↔ x = y := by rw [← Int64.toInt_inj, ml_64 hx, ml_64 hy]
theorem ml_i0 : I32 0 := ⟨by decide, by decide⟩
theorem ml_cl {x : Int} (h0 : 0 ≤ x) (h1 : x ≤ 2147483647) : (Int32.ofInt x).toNatClampNeg = x.toNat := by
  show (Int32.ofInt x).toInt.toNat = x.toNat
  rw [ml_32 ⟨by omega, h1⟩]
theorem ml_vin {x : Int} {N : Nat} (h0 : 0 ≤ x) (h1 : x < N) (hN : N ≤ 100000) : vp_in (Int32.ofInt x) N := by
  rw [vp_in_iff, ml_32 ⟨by omega, by omega⟩]
  exact ⟨h0, h1⟩
theorem ml_len {n : Nat} {k : Int} {kd : Nat × Nat} (h : ml_at n k kd) : kd.2 ≤ 100000 := by
  rw [← h.2.2]
  unfold ml_lay ml_layT
  split
  · decide
  · have h2 : ∀ q ∈ ml_lays, q.2 ≤ 100000 := by decide +kernel
    by_cases hi : k.toNat - 1 < ml_lays.length
    · rw [List.getD_eq_getElem?_getD, List.getElem?_eq_getElem hi]
      exact h2 _ (List.getElem_mem hi)
    · rw [List.getD_eq_getElem?_getD, List.getElem?_eq_none (by omega)]
      decide
