/-! how many powers leave just k loops, and the first one: over whole numbers -/
def mr_sm (b : Int → Int) (lo : Int) : Nat → Int
  | 0 => 0
  | n + 1 => mr_sm b lo n + b (lo + n)
theorem mr_sm_c {b c : Int → Int} {lo : Int} : ∀ n : Nat, (∀ x, lo ≤ x → x < lo + n → b x = c x) → mr_sm b lo n = mr_sm c lo n := by
  intro n
  induction n with
  | zero => intro _; rfl
  | succ n ih => intro h; unfold mr_sm; rw [ih (fun x x0 x1 => h x x0 (by omega)), h _ (by omega) (by omega)]
theorem mr_sm_a {b c d : Int → Int} {lo : Int} : ∀ n : Nat, (∀ x, lo ≤ x → x < lo + n → b x = c x + d x) → mr_sm b lo n = mr_sm c lo n + mr_sm d lo n := by
  intro n
  induction n with
  | zero => intro _; rfl
  | succ n ih =>
    intro h
    have i := ih (fun x x0 x1 => h x x0 (by omega))
    have e := h (lo + n) (by omega) (by omega)
    unfold mr_sm; omega
theorem mr_sm_0 {b : Int → Int} {lo : Int} : ∀ n : Nat, (∀ x, lo ≤ x → x < lo + n → b x = 0) → mr_sm b lo n = 0 := by
  intro n
  induction n with
  | zero => intro _; rfl
  | succ n ih =>
    intro h
    have i := ih (fun x x0 x1 => h x x0 (by omega))
    have e := h (lo + n) (by omega) (by omega)
    unfold mr_sm; omega
theorem mr_sm_1 {b : Int → Int} {lo x0 : Int} : ∀ n : Nat, (∀ x, lo ≤ x → x < lo + n → b x = if x = x0 then 1 else 0) → mr_sm b lo n = if lo ≤ x0 ∧ x0 < lo + n then 1 else 0 := by
  intro n
  induction n with
  | zero => intro _; rw [if_neg (by omega)]; rfl
  | succ n ih =>
    intro h
    have i := ih (fun x x0 x1 => h x x0 (by omega))
    have e := h (lo + n) (by omega) (by omega)
    unfold mr_sm
    rw [i, e]
    by_cases z1 : lo ≤ x0 ∧ x0 < lo + n
    · rw [if_pos z1, if_neg (by omega), if_pos (by omega)]; rfl
    · rw [if_neg z1]
      by_cases z2 : lo + n = x0
      · rw [if_pos z2, if_pos (by omega)]; rfl
      · rw [if_neg z2, if_neg (by omega)]; rfl
theorem mr_S8 {S : Int} (S1 : 1 ≤ S) (S8 : S ≤ 8) : S = 1 ∨ S = 2 ∨ S = 3 ∨ S = 4 ∨ S = 5 ∨ S = 6 ∨ S = 7 ∨ S = 8 := by omega
theorem mr_sm_s {b : Int → Int} {lo low S : Int} (S1 : 1 ≤ S) (S8 : S ≤ 8) (hl : lo ≤ low) : ∀ n : Nat, (∀ x, lo ≤ x → x < lo + n → b x = if low ≤ x ∧ (x - low) % S = 0 then 1 else 0) → mr_sm b lo n = if low < lo + n then (lo + n - 1 - low) / S + 1 else 0 := by
  intro n
  induction n with
  | zero => intro _; rw [if_neg (by omega)]; rfl
  | succ n ih =>
    intro h
    have i := ih (fun x x0 x1 => h x x0 (by omega))
    have e := h (lo + n) (by omega) (by omega)
    unfold mr_sm
    rw [i, e]
    clear i e h ih
    by_cases z1 : low < lo + n
    · rw [if_pos z1]
      by_cases z2 : low ≤ lo + n ∧ (lo + n - low) % S = 0
      · rw [if_pos z2, if_pos (by omega)]
        obtain ⟨-, z2⟩ := z2
        rcases mr_S8 S1 S8 with q | q | q | q | q | q | q | q <;> subst q <;> omega
      · rw [if_neg z2, if_pos (by omega)]
        have z2 : ¬ (lo + n - low) % S = 0 := fun z => z2 ⟨by omega, z⟩
        rcases mr_S8 S1 S8 with q | q | q | q | q | q | q | q <;> subst q <;> omega
    · rw [if_neg z1]
      by_cases z2 : low = lo + n
      · subst z2
        rw [if_pos ⟨Int.le_refl _, by rw [Int.sub_self, Int.zero_emod]⟩, if_pos (by omega)]
        have : lo + ((n + 1 : Nat) : Int) - 1 - (lo + n) = 0 := by omega
        rw [this, Int.zero_ediv]
      · rw [if_neg (fun z => by omega), if_neg (by omega)]; rfl
theorem mr_sm_r {b : Int → Int} {lo : Int} : ∀ n : Nat, (∀ x, lo ≤ x → x < lo + n → 0 ≤ b x ∧ b x ≤ 1) → 0 ≤ mr_sm b lo n ∧ mr_sm b lo n ≤ n := by
  intro n
  induction n with
  | zero => intro _; exact ⟨Int.le_refl 0, Int.le_refl 0⟩
  | succ n ih =>
    intro h
    have i := ih (fun x x0 x1 => h x x0 (by omega))
    have e := h (lo + n) (by omega) (by omega)
    unfold mr_sm; omega
theorem mr_sm_n {b : Int → Int} {lo : Int} : ∀ n : Nat, (∀ x, lo ≤ x → x < lo + n → 0 ≤ b x ∧ b x ≤ 1) → mr_sm b lo n = 0 → ∀ x, lo ≤ x → x < lo + n → b x = 0 := by
  intro n
  induction n with
  | zero => intro _ _ x x0 x1; omega
  | succ n ih =>
    intro h z x x0 x1
    have r := mr_sm_r n (fun x x0 x1 => h x x0 (by omega))
    have e := h (lo + n) (by omega) (by omega)
    unfold mr_sm at z
    by_cases q : x = lo + n
    · subst q; omega
    · exact ih (fun x x0 x1 => h x x0 (by omega)) (by omega) x x0 (by omega)
/-- what is counted -/
def mr_t (f : Int → Int) (k x : Int) : Int := if f x = k then 1 else 0
def mr_d (f : Int → Int) (k j x : Int) : Int := if x < j ∧ f x = k then 1 else 0
def mr_b (f : Int → Int) (B S k i x : Int) : Int := if (B ≤ x ∧ (x - B) % S = i) ∧ f x = k then 1 else 0
def mr_c (f : Int → Int) (B S k N x : Int) : Int := if (x < B ∨ (x - B) % S < N) ∧ f x = k then 1 else 0
theorem mr_t_r (f : Int → Int) (k x : Int) : 0 ≤ mr_t f k x ∧ mr_t f k x ≤ 1 := by unfold mr_t; split <;> omega
theorem mr_d_s (f : Int → Int) (k j x : Int) : mr_d f k (j + 1) x = mr_d f k j x + (if x = j ∧ f j = k then 1 else 0) := by
  unfold mr_d
  by_cases z : x = j
  · subst z
    by_cases q : f x = k
    · rw [if_pos ⟨by omega, q⟩, if_neg (by omega), if_pos ⟨rfl, q⟩]; rfl
    · rw [if_neg (fun y => q y.2), if_neg (fun y => q y.2), if_neg (fun y => q y.2)]; rfl
  · rw [if_neg (c := x = j ∧ f j = k) (fun y => z y.1)]
    by_cases q : x < j ∧ f x = k
    · rw [if_pos q, if_pos ⟨by omega, q.2⟩]; rfl
    · rw [if_neg q, if_neg (fun y => q ⟨by omega, y.2⟩)]; rfl
theorem mr_c_s (f : Int → Int) (B S k N x : Int) (N0 : 0 ≤ N) (S1 : 1 ≤ S) : mr_c f B S k (N + 1) x = mr_c f B S k N x + mr_b f B S k N x := by
  unfold mr_c mr_b
  have m0 := Int.emod_nonneg (x - B) (show S ≠ 0 by omega)
  generalize (x - B) % S = r at *
  by_cases q : f x = k
  · by_cases z : x < B
    · rw [if_pos ⟨Or.inl z, q⟩, if_pos ⟨Or.inl z, q⟩, if_neg (fun y => by omega)]; rfl
    · rcases Int.lt_trichotomy r N with y | y | y
      · rw [if_pos ⟨Or.inr (by omega), q⟩, if_pos ⟨Or.inr y, q⟩, if_neg (fun w => by omega)]; rfl
      · rw [if_pos ⟨Or.inr (by omega), q⟩, if_neg (fun w => by omega), if_pos ⟨⟨by omega, y⟩, q⟩]; rfl
      · rw [if_neg (fun w => by omega), if_neg (fun w => by omega), if_neg (fun w => by omega)]; rfl
  · rw [if_neg (fun y => q y.2), if_neg (fun y => q y.2), if_neg (fun y => q y.2)]; rfl
theorem mr_c_0 (f : Int → Int) (B S k x : Int) (S1 : 1 ≤ S) : mr_c f B S k 0 x = mr_d f k B x := by
  unfold mr_c mr_d
  have m0 := Int.emod_nonneg (x - B) (show S ≠ 0 by omega)
  generalize (x - B) % S = r at *
  by_cases q : x < B ∧ f x = k
  · rw [if_pos q, if_pos ⟨Or.inl q.1, q.2⟩]
  · rw [if_neg q, if_neg (fun y => q ⟨by omega, y.2⟩)]
theorem mr_c_S (f : Int → Int) (B S k x : Int) (S1 : 1 ≤ S) : mr_c f B S k S x = mr_t f k x := by
  unfold mr_c mr_t
  have m1 := Int.emod_lt_of_pos (x - B) (show 0 < S by omega)
  by_cases q : f x = k
  · rw [if_pos q, if_pos ⟨Or.inr m1, q⟩]
  · rw [if_neg q, if_neg (fun y => q y.2)]
/-- chains: f grows by γ over S, from B on -/
def mr_h (f : Int → Int) (B S γ : Int) : Prop := 1 ≤ B ∧ 1 ≤ S ∧ S ≤ 8 ∧ 0 ≤ γ ∧ ∀ x, B ≤ x → f (x + S) = f x + γ
theorem mr_ch {f : Int → Int} {B S γ x : Int} (H : mr_h f B S γ) (hx : B ≤ x) : ∀ t : Nat, f (x + S * t) = f x + γ * t := by
  intro t
  induction t with
  | zero => simp
  | succ t ih =>
    have m := Int.mul_nonneg (show 0 ≤ S by have := H.2.1; omega) (show (0 : Int) ≤ t by omega)
    have e := H.2.2.2.2 (x + S * t) (by omega)
    rw [show ((t + 1 : Nat) : Int) = (t : Int) + 1 by omega, Int.mul_add, Int.mul_add, Int.mul_one, Int.mul_one, ← Int.add_assoc, e, ih]
    omega
theorem mr_in {B S i x : Int} (S1 : 1 ≤ S) (S8 : S ≤ 8) (i0 : 0 ≤ i) (i1 : i < S) : (B ≤ x ∧ (x - B) % S = i) ↔ (B + i ≤ x ∧ (x - (B + i)) % S = 0) := by
  rcases mr_S8 S1 S8 with q | q | q | q | q | q | q | q <;> subst q <;> omega
theorem mr_f {f : Int → Int} {B S γ n x : Int} (H : mr_h f B S γ) (hn : B ≤ n) (hx : n ≤ x) (m : (x - n) % S = 0) : 0 ≤ (x - n) / S ∧ x = n + S * ((x - n) / S) ∧ f x = f n + γ * ((x - n) / S) := by
  have d0 := Int.ediv_nonneg (show 0 ≤ x - n by omega) (show 0 ≤ S by have := H.2.1; omega)
  have md := Int.mul_ediv_add_emod (x - n) S
  rw [m] at md
  have c := mr_ch H hn ((x - n) / S).toNat
  rw [show ((((x - n) / S).toNat : Nat) : Int) = (x - n) / S by omega] at c
  have ex : x = n + S * ((x - n) / S) := by omega
  refine ⟨d0, ex, ?_⟩
  rw [← c, ← ex]
/-- the least of a chain from a place on -/
def mr_low (n fr S : Int) : Int := if fr ≤ n then n else n + (fr - n + S - 1) / S * S
theorem mr_low_p {n fr S : Int} (S1 : 1 ≤ S) (S8 : S ≤ 8) : n ≤ mr_low n fr S ∧ fr ≤ mr_low n fr S ∧ (mr_low n fr S - n) % S = 0 ∧ ∀ x, fr ≤ x → ((n ≤ x ∧ (x - n) % S = 0) ↔ (mr_low n fr S ≤ x ∧ (x - mr_low n fr S) % S = 0)) := by
  unfold mr_low
  by_cases z : fr ≤ n
  · rw [if_pos z]
    refine ⟨by omega, by omega, by rw [Int.sub_self, Int.zero_emod], fun x _ => Iff.rfl⟩
  · rw [if_neg z]
    rcases mr_S8 S1 S8 with q | q | q | q | q | q | q | q <;> subst q <;> exact ⟨by omega, by omega, by omega, fun x x0 => by omega⟩
/-- the class: the first of a chain that leaves k -/
def mr_ff (f : Int → Int) (S γ k n : Int) : Int := if k - f n = 0 then n else if k - f n < 0 ∨ γ ≤ 0 ∨ (k - f n) % γ ≠ 0 then -1 else n + (k - f n) / γ * S
theorem mr_ff_p {f : Int → Int} {B S γ k n : Int} (H : mr_h f B S γ) (hn : B ≤ n) : (mr_ff f S γ k n = -1 ∧ ∀ x, n ≤ x → (x - n) % S = 0 → f x ≠ k) ∨ (n ≤ mr_ff f S γ k n ∧ (mr_ff f S γ k n - n) % S = 0 ∧ f (mr_ff f S γ k n) = k ∧ (0 < γ → ∀ x, n ≤ x → (x - n) % S = 0 → f x = k → x = mr_ff f S γ k n) ∧ (γ ≤ 0 → mr_ff f S γ k n = n ∧ ∀ x, n ≤ x → (x - n) % S = 0 → f x = k)) := by
  have g0 := H.2.2.2.1
  have B1 := H.1
  unfold mr_ff
  by_cases z : k - f n = 0
  · rw [if_pos z]
    refine Or.inr ⟨by omega, by rw [Int.sub_self, Int.zero_emod], by omega, fun gp x x0 m e => ?_, fun gz => ⟨rfl, fun x x0 m => ?_⟩⟩
    · obtain ⟨d0, ex, ef⟩ := mr_f H hn x0 m
      have : γ * ((x - n) / S) = 0 := by omega
      rcases Int.mul_eq_zero.mp this with q | q
      · omega
      · rw [q] at ex; omega
    · obtain ⟨d0, ex, ef⟩ := mr_f H hn x0 m
      rw [show γ = 0 by omega, Int.zero_mul] at ef; omega
  · rw [if_neg z]
    by_cases y : k - f n < 0 ∨ γ ≤ 0 ∨ (k - f n) % γ ≠ 0
    · rw [if_pos y]
      refine Or.inl ⟨rfl, fun x x0 m e => ?_⟩
      obtain ⟨d0, ex, ef⟩ := mr_f H hn x0 m
      have gm := Int.mul_nonneg g0 d0
      rcases y with y | y | y
      · omega
      · rw [show γ = 0 by omega, Int.zero_mul] at ef; omega
      · refine y ?_
        rw [← e, ef, show f n + γ * ((x - n) / S) - f n = γ * ((x - n) / S) by omega, Int.mul_emod_right]
    · rw [if_neg y]
      have y1 : 0 ≤ k - f n := by omega
      have y2 : 0 < γ := by omega
      have y3 : (k - f n) % γ = 0 := Classical.byContradiction (fun w => y (Or.inr (Or.inr w)))
      have t0 := Int.ediv_nonneg y1 (show 0 ≤ γ by omega)
      have md := Int.mul_ediv_add_emod (k - f n) γ
      rw [y3] at md
      have c := mr_ch H hn ((k - f n) / γ).toNat
      rw [show ((((k - f n) / γ).toNat : Nat) : Int) = (k - f n) / γ by omega] at c
      rw [Int.mul_comm ((k - f n) / γ) S]
      have sm := Int.mul_nonneg (show 0 ≤ S by have := H.2.1; omega) t0
      refine Or.inr ⟨by omega, ?_, by omega, fun _ x x0 m e => ?_, fun gz => by omega⟩
      · rw [show n + S * ((k - f n) / γ) - n = S * ((k - f n) / γ) by omega, Int.mul_emod_right]
      · obtain ⟨d0, ex, ef⟩ := mr_f H hn x0 m
        have : γ * ((x - n) / S) = γ * ((k - f n) / γ) := by omega
        rw [← Int.eq_of_mul_eq_mul_left (show γ ≠ 0 by omega) this]; exact ex
/-- how many of a chain leave k, in a stretch -/
theorem mr_hm {f : Int → Int} {B S γ k i fr to : Int} (H : mr_h f B S γ) (i0 : 0 ≤ i) (i1 : i < S) (ft : fr ≤ to) (f1 : 1 ≤ fr) : mr_sm (mr_b f B S k i) fr (to - fr + 1).toNat = (if mr_ff f S γ k (B + i) = -1 ∨ to < mr_ff f S γ k (B + i) then 0 else if 0 < γ then (if fr ≤ mr_ff f S γ k (B + i) then 1 else 0) else if to < mr_low (mr_ff f S γ k (B + i)) fr S then 0 else (to - mr_low (mr_ff f S γ k (B + i)) fr S) / S + 1) := by
  have S1 := H.2.1
  have S8 := H.2.2.1
  have B1 := H.1
  have E : (((to - fr + 1).toNat : Nat) : Int) = to - fr + 1 := by omega
  have P := mr_ff_p (k := k) H (show B ≤ B + i by omega)
  generalize mr_ff f S γ k (B + i) = n at *
  have ib : ∀ x, mr_b f B S k i x = if (B + i ≤ x ∧ (x - (B + i)) % S = 0) ∧ f x = k then 1 else 0 := fun x => by
    unfold mr_b
    have m := mr_in (B := B) (x := x) S1 S8 i0 i1
    by_cases q : (B ≤ x ∧ (x - B) % S = i) ∧ f x = k
    · rw [if_pos q, if_pos ⟨m.1 q.1, q.2⟩]
    · rw [if_neg q, if_neg (fun y => q ⟨m.2 y.1, y.2⟩)]
  rcases P with ⟨p1, p2⟩ | ⟨p1, p2, p3, p4, p5⟩
  · rw [if_pos (Or.inl p1)]
    exact mr_sm_0 _ (fun x _ _ => by rw [ib x, if_neg (fun y => p2 x y.1.1 y.1.2 y.2)])
  · have n1 : n ≠ -1 := by omega
    by_cases gp : 0 < γ
    · have s := mr_sm_1 (b := mr_b f B S k i) (lo := fr) (x0 := n) (to - fr + 1).toNat (fun x _ _ => by
        rw [ib x]
        by_cases q : x = n
        · subst q; rw [if_pos ⟨⟨p1, p2⟩, p3⟩, if_pos rfl]
        · rw [if_neg q, if_neg (fun y => q (p4 gp x y.1.1 y.1.2 y.2))])
      rw [s, if_pos gp]
      by_cases z : to < n
      · rw [if_pos (c := n = -1 ∨ to < n) (Or.inr z), if_neg (by omega)]
      · rw [if_neg (c := n = -1 ∨ to < n) (fun y => by omega)]
        by_cases z2 : fr ≤ n
        · rw [if_pos z2, if_pos (by omega)]
        · rw [if_neg z2, if_neg (by omega)]
    · obtain ⟨q1, q2⟩ := p5 (by omega)
      rw [if_neg gp]
      obtain ⟨l1, l2, l3, l4⟩ := mr_low_p (n := n) (fr := fr) S1 S8
      have s := mr_sm_s (b := mr_b f B S k i) (lo := fr) (low := mr_low n fr S) S1 S8 l2 (to - fr + 1).toNat (fun x x0 _ => by
        rw [ib x]
        have l4 := l4 x x0
        by_cases q : B + i ≤ x ∧ (x - (B + i)) % S = 0
        · rw [if_pos ⟨q, q2 x q.1 q.2⟩, if_pos (l4.1 (by rw [q1]; exact q))]
        · rw [if_neg (fun y => q y.1), if_neg (fun y => q (by rw [← q1]; exact l4.2 y))])
      rw [s, E]
      by_cases z : to < n
      · rw [if_pos (c := n = -1 ∨ to < n) (Or.inr z), if_neg (by omega)]
      · rw [if_neg (c := n = -1 ∨ to < n) (fun y => by omega)]
        by_cases z2 : to < mr_low n fr S
        · rw [if_pos z2, if_neg (by omega)]
        · rw [if_neg z2, if_pos (by omega), show fr + (to - fr + 1) - 1 - mr_low n fr S = to - mr_low n fr S by omega]
