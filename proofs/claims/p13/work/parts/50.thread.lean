/-! THREADS: pigeonholes, and the way through two matchings (pure) -/
theorem mt_ph : ∀ (m : Nat) (f : Nat → Int), (∀ i, i < m + 1 → 0 ≤ f i ∧ f i < m) → ∃ i j, i < j ∧ j < m + 1 ∧ f i = f j := by
  intro m
  induction m with
  | zero => intro f h; have := h 0 (by omega); omega
  | succ m ih =>
    intro f h
    by_cases hx : ∃ i, i < m + 1 ∧ f i = f (m + 1)
    · obtain ⟨i, hi, e⟩ := hx
      exact ⟨i, m + 1, hi, by omega, e⟩
    · have hne : ∀ i, i < m + 1 → f i ≠ f (m + 1) := fun i hi e => hx ⟨i, hi, e⟩
      obtain ⟨i, j, hij, hj, e⟩ := ih (fun i => if f i = m then f (m + 1) else f i) (fun i hi => by
        have h1 := h i (by omega)
        have h2 := h (m + 1) (by omega)
        have h3 := hne i hi
        show 0 ≤ (if f i = m then f (m + 1) else f i) ∧ (if f i = m then f (m + 1) else f i) < m
        split <;> constructor <;> omega)
      have e : (if f i = m then f (m + 1) else f i) = (if f j = m then f (m + 1) else f j) := e
      have h3 := hne i (by omega)
      have h4 := hne j (by omega)
      refine ⟨i, j, hij, by omega, ?_⟩
      split at e <;> split at e <;> omega
/-- a walk of a one-to-one step that starts outside the step's image meets no place twice -/
theorem mt_walk {g : Int → Int} {s : Int} {I : Int → Prop} (n : Nat) (x : Nat → Int) (h0 : x 0 = s) (hs : ∀ i, i < n → x (i + 1) = g (x i)) (hI : ∀ i, i < n → I (x i)) (inj : ∀ a b, I a → I b → g a = g b → a = b) (hout : ∀ a, I a → g a ≠ s) : ∀ i j, i < j → j ≤ n → x i ≠ x j := by
  intro i
  induction i with
  | zero =>
    intro j hij hj e
    obtain ⟨k, rfl⟩ : ∃ k, j = k + 1 := ⟨j - 1, by omega⟩
    rw [hs k (by omega), h0] at e
    exact hout _ (hI k (by omega)) e.symm
  | succ i ih =>
    intro j hij hj e
    obtain ⟨k, rfl⟩ : ∃ k, j = k + 1 := ⟨j - 1, by omega⟩
    rw [hs i (by omega), hs k (by omega)] at e
    exact ih k (by omega) (by omega) (inj _ _ (hI i (by omega)) (hI k (by omega)) e)
/-- so it is no longer than there are places -/
theorem mt_walk_len {g : Int → Int} {s : Int} {I : Int → Prop} {m : Nat} (n : Nat) (x : Nat → Int) (h0 : x 0 = s) (hs : ∀ i, i < n → x (i + 1) = g (x i)) (hI : ∀ i, i < n → I (x i)) (hr : ∀ i, i ≤ n → 0 ≤ x i ∧ x i < m) (inj : ∀ a b, I a → I b → g a = g b → a = b) (hout : ∀ a, I a → g a ≠ s) : n < m := by
  rcases Nat.lt_or_ge n m with h | h
  · exact h
  · obtain ⟨i, j, hij, hj, e⟩ := mt_ph m x (fun i hi => hr i (by omega))
    exact absurd e (mt_walk n x h0 hs hI inj hout i j hij (by omega))
/-- a one-to-one step that never leaves comes back -/
theorem mt_ring {g : Int → Int} {I : Int → Prop} {m : Nat} {s : Int} (hs : I s) (hI : ∀ a, I a → I (g a)) (hr : ∀ a, I a → 0 ≤ a ∧ a < m) (inj : ∀ a b, I a → I b → g a = g b → a = b) : ∃ n, 1 ≤ n ∧ n ≤ m ∧ Nat.rec (motive := fun _ => Int) s (fun _ y => g y) n = s := by
  have hx : ∀ i : Nat, I (Nat.rec (motive := fun _ => Int) s (fun _ y => g y) i) := by
    intro i
    induction i with
    | zero => exact hs
    | succ i ih => exact hI _ ih
  obtain ⟨i, j, hij, hj, e⟩ := mt_ph m (fun i => Nat.rec (motive := fun _ => Int) s (fun _ y => g y) i) (fun i _ => hr _ (hx i))
  have back : ∀ (i k : Nat), Nat.rec (motive := fun _ => Int) s (fun _ y => g y) i = Nat.rec (motive := fun _ => Int) s (fun _ y => g y) (i + k) → s = Nat.rec (motive := fun _ => Int) s (fun _ y => g y) k := by
    intro i
    induction i with
    | zero => intro k e; rw [Nat.zero_add] at e; exact e
    | succ i ih =>
      intro k e
      refine ih k (inj _ _ (hx i) (hx (i + k)) ?_)
      rw [show i + 1 + k = (i + k) + 1 by omega] at e
      exact e
  refine ⟨j - i, by omega, by omega, ?_⟩
  exact (back i (j - i) (by rw [show i + (j - i) = j by omega]; exact e)).symm
