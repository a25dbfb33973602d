/-! words (as numbers, a letter a digit) in the order in which queues meet them -/
def mz_w (L : Int) (nx e : Int → Int → Int) : Nat → Int → Int → Int → Prop
  | 0, n, p, l => n = 0 ∧ p = 0 ∧ l = 0
  | m + 1, n, p, l => ∃ n' p' l' a, mz_w L nx e m n' p' l' ∧ 0 ≤ a ∧ a < L ∧ n = 7 * n' + a + 1 ∧ p = nx p' a ∧ l = l' + e p' a
def mz_q (B L PP : Int) (nx e : Int → Int → Int) (tail hd : Nat) (i : Int) (P U V : Nat → Int) : Prop := 1 ≤ tail ∧ (P 0 = 0 ∧ U 0 = 0 ∧ V 0 = 0) ∧ (∀ j : Nat, j < tail → 0 ≤ P j ∧ P j < PP ∧ 0 ≤ U j ∧ U j < B ∧ ∃ m : Nat, m ≤ j ∧ mz_w L nx e m (V j) (P j) (U j)) ∧ (∀ i j : Nat, i < j → j < tail → V i < V j) ∧ (∀ (j : Nat) (a : Int), j < tail → (j < hd ∨ (j = hd ∧ a < i)) → 0 ≤ a → a < L → U j + e (P j) a < B → ∃ j' : Nat, j' < tail ∧ P j' = nx (P j) a ∧ U j' = U j + e (P j) a ∧ V j' ≤ 7 * V j + a + 1) ∧ (hd < tail → ∀ j : Nat, j < tail → V j < 7 * V hd + i + 1)
/-- what nx and e keep to -/
def mz_n (L PP : Int) (nx e : Int → Int → Int) : Prop := ∀ p a, 0 ≤ p → p < PP → 0 ≤ a → a < L → 1 ≤ nx p a ∧ nx p a < PP ∧ 0 ≤ e p a
theorem mz_q_0 {B L PP : Int} {nx e : Int → Int → Int} {P U V : Nat → Int} (B1 : 1 ≤ B) (P1 : 1 ≤ PP) (p : P 0 = 0) (u : U 0 = 0) (v : V 0 = 0) : mz_q B L PP nx e 1 0 0 P U V := by
  refine ⟨Nat.le_refl 1, ⟨p, u, v⟩, fun j hj => ?_, fun i j hi hj => by omega, fun j a hj h a0 a1 => by omega, fun _ j hj => ?_⟩
  · have : j = 0 := by omega
    subst this
    rw [p, u, v]
    exact ⟨Int.le_refl 0, by omega, Int.le_refl 0, by omega, 0, Nat.le_refl 0, rfl, rfl, rfl⟩
  · have : j = 0 := by omega
    subst this
    rw [v]; omega
theorem mz_q_push {B L PP i : Int} {nx e : Int → Int → Int} {tail hd : Nat} {P U V P' U' V' : Nat → Int} (n : mz_n L PP nx e) (q : mz_q B L PP nx e tail hd i P U V) (ht : hd < tail) (i0 : 0 ≤ i) (i1 : i < L) (L6 : L ≤ 6) (hb : U hd + e (P hd) i < B) (hP : ∀ j : Nat, j < tail → P' j = P j) (hU : ∀ j : Nat, j < tail → U' j = U j) (hV : ∀ j : Nat, j < tail → V' j = V j) (eP : P' tail = nx (P hd) i) (eU : U' tail = U hd + e (P hd) i) (eV : V' tail = 7 * V hd + i + 1) : mz_q B L PP nx e (tail + 1) hd (i + 1) P' U' V' := by
  obtain ⟨q1, ⟨q2, q3, q4⟩, q5, q6, q7, q8⟩ := q
  obtain ⟨h1, h2, h3, h4, m, h5, h6⟩ := q5 hd ht
  obtain ⟨n1, n2, n3⟩ := n (P hd) i h1 h2 i0 i1
  refine ⟨by omega, ⟨by rw [hP 0 (by omega)]; exact q2, by rw [hU 0 (by omega)]; exact q3, by rw [hV 0 (by omega)]; exact q4⟩, fun j hj => ?_, fun a b hab hb' => ?_, fun j a hj h a0 a1 hlt => ?_, fun _ j hj => ?_⟩
  · by_cases z : j = tail
    · rw [z, eP, eU, eV]
      exact ⟨by omega, n2, by omega, hb, m + 1, by omega, V hd, P hd, U hd, i, h6, i0, i1, rfl, rfl, rfl⟩
    · rw [hP j (by omega), hU j (by omega), hV j (by omega)]; exact q5 j (by omega)
  · by_cases z : b = tail
    · rw [z, eV, hV a (by omega)]; exact q8 ht a (by omega)
    · rw [hV a (by omega), hV b (by omega)]; exact q6 a b hab (by omega)
  · have jt : j < tail := by omega
    rw [hP j jt, hU j jt] at hlt ⊢
    rw [hV j jt]
    by_cases z : j = hd ∧ a = i
    · refine ⟨tail, by omega, ?_, ?_, ?_⟩
      · rw [eP, z.1, z.2]
      · rw [eU, z.1, z.2]
      · rw [eV, z.1, z.2]; exact Int.le_refl _
    · obtain ⟨j', x1, x2, x3, x4⟩ := q7 j a jt (by omega) a0 a1 hlt
      exact ⟨j', by omega, by rw [hP j' x1]; exact x2, by rw [hU j' x1]; exact x3, by rw [hV j' x1]; exact x4⟩
  · rw [hV hd ht]
    by_cases z : j = tail
    · rw [z, eV]; omega
    · rw [hV j (by omega)]; have := q8 ht j (by omega); omega
theorem mz_q_skip {B L PP i : Int} {nx e : Int → Int → Int} {tail hd : Nat} {P U V : Nat → Int} (q : mz_q B L PP nx e tail hd i P U V) (ht : hd < tail) (h : U hd + e (P hd) i < B → ∃ j' : Nat, j' < tail ∧ P j' = nx (P hd) i ∧ U j' = U hd + e (P hd) i) : mz_q B L PP nx e tail hd (i + 1) P U V := by
  obtain ⟨q1, q2, q5, q6, q7, q8⟩ := q
  refine ⟨q1, q2, q5, q6, fun j a hj hh a0 a1 hlt => ?_, fun _ j hj => by have := q8 ht j hj; omega⟩
  by_cases z : j = hd ∧ a = i
  · rw [z.1, z.2] at hlt ⊢
    obtain ⟨j', x1, x2, x3⟩ := h hlt
    exact ⟨j', x1, x2, x3, by have := q8 ht j' x1; omega⟩
  · exact q7 j a hj (by omega) a0 a1 hlt
theorem mz_q_next {B L PP : Int} {nx e : Int → Int → Int} {tail hd : Nat} {P U V : Nat → Int} (L6 : L ≤ 6) (q : mz_q B L PP nx e tail hd L P U V) (ht : hd < tail) : mz_q B L PP nx e tail (hd + 1) 0 P U V := by
  obtain ⟨q1, q2, q5, q6, q7, q8⟩ := q
  refine ⟨q1, q2, q5, q6, fun j a hj hh a0 a1 hlt => q7 j a hj (by omega) a0 a1 hlt, fun h2 j hj => ?_⟩
  have a := q8 ht j hj
  have b := q6 hd (hd + 1) (by omega) h2
  omega
theorem mz_w_r {L PP : Int} {nx e : Int → Int → Int} (P1 : 1 ≤ PP) (n : mz_n L PP nx e) : ∀ (m : Nat) (v p l : Int), mz_w L nx e m v p l → 0 ≤ p ∧ p < PP ∧ 0 ≤ l ∧ 0 ≤ v := by
  intro m
  induction m with
  | zero => intro v p l h; obtain ⟨h1, h2, h3⟩ := h; omega
  | succ m ih =>
    intro v p l h
    obtain ⟨v', p', l', a, h1, a0, a1, h2, h3, h4⟩ := h
    obtain ⟨i1, i2, i3, i4⟩ := ih v' p' l' h1
    obtain ⟨n1, n2, n3⟩ := n p' a i1 i2 a0 a1
    omega
theorem mz_cov {B L PP i : Int} {nx e : Int → Int → Int} {tail hd : Nat} {P U V : Nat → Int} (P1 : 1 ≤ PP) (n : mz_n L PP nx e) (q : mz_q B L PP nx e tail hd i P U V) (i6 : i ≤ 6) : ∀ (m : Nat) (v p l : Int), mz_w L nx e m v p l → l < B → (hd < tail → v < 7 * V hd + i + 1) → ∃ j : Nat, j < tail ∧ P j = p ∧ U j = l ∧ V j ≤ v := by
  obtain ⟨q1, ⟨q2, q3, q4⟩, q5, q6, q7, q8⟩ := q
  intro m
  induction m with
  | zero =>
    intro v p l h _ _
    obtain ⟨h1, h2, h3⟩ := h
    exact ⟨0, by omega, by omega, by omega, by omega⟩
  | succ m ih =>
    intro v p l h hl hv
    obtain ⟨v', p', l', a, h1, a0, a1, h2, h3, h4⟩ := h
    obtain ⟨r1, r2, r3, r4⟩ := mz_w_r P1 n m v' p' l' h1
    have r5 := (n p' a r1 r2 a0 a1).2.2
    obtain ⟨j, j1, j2, j3, j4⟩ := ih v' p' l' h1 (by omega) (fun z => by have := hv z; omega)
    have done : j < hd ∨ (j = hd ∧ a < i) := by
      by_cases z : hd < tail
      · have hv := hv z
        by_cases z1 : j < hd
        · exact Or.inl z1
        · by_cases z2 : j = hd
          · rw [z2] at j4; right; exact ⟨z2, by omega⟩
          · have := q6 hd j (by omega) j1; omega
      · left; omega
    obtain ⟨j', y1, y2, y3, y4⟩ := q7 j a j1 done a0 a1 (by rw [j2, j3]; omega)
    rw [j2] at y2
    rw [j2, j3] at y3
    exact ⟨j', y1, by rw [y2, h3], by rw [y3, h4], by omega⟩
/-- the letter that comes n letters before the last -/
def mz_d : Int → Nat → Int
  | v, 0 => v % 7 - 1
  | v, n + 1 => mz_d (v / 7) n
/-- v is the least word of those that leave x loops; it has m letters -/
def mz_M (L : Int) (nx e : Int → Int → Int) (cT : Int → Int) (x : Int) (m : Nat) (v : Int) : Prop := 1 ≤ m ∧ (∃ p l, mz_w L nx e m v p l ∧ l + cT p = x) ∧ ∀ (m' : Nat) (v' p l : Int), mz_w L nx e (m' + 1) v' p l → l + cT p = x → v ≤ v'
def mz_N (L : Int) (nx e : Int → Int → Int) (cT : Int → Int) (x : Int) : Prop := ∀ (m' : Nat) (v' p l : Int), mz_w L nx e (m' + 1) v' p l → l + cT p ≠ x
theorem mz_w_m {L : Int} {nx e : Int → Int → Int} (n : ∀ m v p l, mz_w L nx e m v p l → 0 ≤ v) (L6 : L ≤ 6) : ∀ (m m' : Nat) (v p l p' l' : Int), mz_w L nx e m v p l → mz_w L nx e m' v p' l' → m = m' := by
  intro m
  induction m with
  | zero =>
    intro m' v p l p' l' h h'
    cases m' with
    | zero => rfl
    | succ m' =>
      obtain ⟨v1, p1, l1, a, h1, a0, a1, h2, -⟩ := h'
      have := n _ _ _ _ h1
      have := h.1
      omega
  | succ m ih =>
    intro m' v p l p' l' h h'
    obtain ⟨v1, p1, l1, a, h1, a0, a1, h2, -⟩ := h
    have x1 := n _ _ _ _ h1
    cases m' with
    | zero => have := h'.1; omega
    | succ m' =>
      obtain ⟨v2, p2, l2, b, h3, b0, b1, h4, -⟩ := h'
      have x2 := n _ _ _ _ h3
      have : v1 = v2 := by omega
      subst this
      rw [ih m' v1 p1 l1 p2 l2 h1 h3]
/-- the answer of a word -/
def mz_an (l : Int → Int) (m : Nat) (v x : Int) : Int := if x = -1 then (m : Int) else if 0 ≤ x ∧ x < m then l (mz_d v (m - 1 - x.toNat)) else -1
