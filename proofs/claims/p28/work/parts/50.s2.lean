/-! THREADS: pigeonholes, and the way through two matchings (pure) -/
theorem mt_ph : ∀ (m : Nat) (f : Nat → Int), (∀ i, i < m + 1 → 0 ≤ f i ∧ f i < m) → ∃ i j, i < j ∧ j < m + 1 ∧ f i = f j := by
  intro m
  induction m with
  | zero => intro f h; have := h 0 (by omega); omega
  | succ m ih =>
    intro f h
    by_cases hx : ∃ i, i < m + 1 ∧ f i = f (m + 1)
    · obtain ⟨i, hi, e⟩ := hx
      exact ⟨i, m + 1, hi, by omega, e⟩
    · have hne : ∀ i, i < m + 1 → f i ≠ f (m + 1) := fun i hi e => hx ⟨i, hi, e⟩
      obtain ⟨i, j, hij, hj, e⟩ := ih (fun i => if f i = m then f (m + 1) else f i) (fun i hi => by
        have h1 := h i (by omega)
        have h2 := h (m + 1) (by omega)
        have h3 := hne i hi
        show 0 ≤ (if f i = m then f (m + 1) else f i) ∧ (if f i = m then f (m + 1) else f i) < m
        split <;> constructor <;> omega)
      have e : (if f i = m then f (m + 1) else f i) = (if f j = m then f (m + 1) else f j) := e
      have h3 := hne i (by omega)
      have h4 := hne j (by omega)
      refine ⟨i, j, hij, by omega, ?_⟩
      split at e <;> split at e <;> omega
/-- a walk of a one-to-one step that starts outside the step's image meets no place twice -/
theorem mt_walk {g : Int → Int} {s : Int} {I : Int → Prop} (n : Nat) (x : Nat → Int) (h0 : x 0 = s) (hs : ∀ i, i < n → x (i + 1) = g (x i)) (hI : ∀ i, i < n → I (x i)) (inj : ∀ a b, I a → I b → g a = g b → a = b) (hout : ∀ a, I a → g a ≠ s) : ∀ i j, i < j → j ≤ n → x i ≠ x j := by
  intro i
  induction i with
  | zero =>
    intro j hij hj e
    obtain ⟨k, rfl⟩ : ∃ k, j = k + 1 := ⟨j - 1, by omega⟩
    rw [hs k (by omega), h0] at e
    exact hout _ (hI k (by omega)) e.symm
  | succ i ih =>
    intro j hij hj e
    obtain ⟨k, rfl⟩ : ∃ k, j = k + 1 := ⟨j - 1, by omega⟩
    rw [hs i (by omega), hs k (by omega)] at e
    exact ih k (by omega) (by omega) (inj _ _ (hI i (by omega)) (hI k (by omega)) e)
/-- so it is no longer than there are places -/
theorem mt_walk_len {g : Int → Int} {s : Int} {I : Int → Prop} {m : Nat} (n : Nat) (x : Nat → Int) (h0 : x 0 = s) (hs : ∀ i, i < n → x (i + 1) = g (x i)) (hI : ∀ i, i < n → I (x i)) (hr : ∀ i, i ≤ n → 0 ≤ x i ∧ x i < m) (inj : ∀ a b, I a → I b → g a = g b → a = b) (hout : ∀ a, I a → g a ≠ s) : n < m := by
  rcases Nat.lt_or_ge n m with h | h
  · exact h
  · obtain ⟨i, j, hij, hj, e⟩ := mt_ph m x (fun i hi => hr i (by omega))
    exact absurd e (mt_walk n x h0 hs hI inj hout i j hij (by omega))
/-- a one-to-one step that never leaves comes back -/
theorem mt_ring {g : Int → Int} {I : Int → Prop} {m : Nat} {s : Int} (hs : I s) (hI : ∀ a, I a → I (g a)) (hr : ∀ a, I a → 0 ≤ a ∧ a < m) (inj : ∀ a b, I a → I b → g a = g b → a = b) : ∃ n, 1 ≤ n ∧ n ≤ m ∧ Nat.rec (motive := fun _ => Int) s (fun _ y => g y) n = s := by
  have hx : ∀ i : Nat, I (Nat.rec (motive := fun _ => Int) s (fun _ y => g y) i) := by
    intro i
    induction i with
    | zero => exact hs
    | succ i ih => exact hI _ ih
  obtain ⟨i, j, hij, hj, e⟩ := mt_ph m (fun i => Nat.rec (motive := fun _ => Int) s (fun _ y => g y) i) (fun i _ => hr _ (hx i))
  have back : ∀ (i k : Nat), Nat.rec (motive := fun _ => Int) s (fun _ y => g y) i = Nat.rec (motive := fun _ => Int) s (fun _ y => g y) (i + k) → s = Nat.rec (motive := fun _ => Int) s (fun _ y => g y) k := by
    intro i
    induction i with
    | zero => intro k e; rw [Nat.zero_add] at e; exact e
    | succ i ih =>
      intro k e
      refine ih k (inj _ _ (hx i) (hx (i + k)) ?_)
      rw [show i + 1 + k = (i + k) + 1 by omega] at e
      exact e
  refine ⟨j - i, by omega, by omega, ?_⟩
  exact (back i (j - i) (by rw [show i + (j - i) = j by omega]; exact e)).symm
/-! MATCHINGS of the 2 h ends, and threads through a with b behind it: A's end e is e, B's end e is 2 h + e -/
def mt_M (h : Int) (f : Int → Int) : Prop := ∀ e, 0 ≤ e → e < 2 * h → 0 ≤ f e ∧ f e < 2 * h ∧ f (f e) = e ∧ f e ≠ e
def mt_P (h : Int) (a b : Int → Int) (x : Int) : Int := if x < 2 * h then a x else 2 * h + b (x - 2 * h)
def mt_J (h x : Int) : Int := if x < 2 * h then x + h else x - h
def mt_in (h x : Int) : Prop := h ≤ x ∧ x < 3 * h
def mt_all (h x : Int) : Prop := 0 ≤ x ∧ x < 4 * h
theorem mt_P_inv {h : Int} {a b : Int → Int} (ha : mt_M h a) (hb : mt_M h b) {x : Int} (hx : mt_all h x) : mt_all h (mt_P h a b x) ∧ mt_P h a b (mt_P h a b x) = x ∧ mt_P h a b x ≠ x := by
  obtain ⟨h1, h2⟩ := hx
  by_cases q : x < 2 * h
  · obtain ⟨g1, g2, g3, g4⟩ := ha x h1 q
    have e : mt_P h a b x = a x := by unfold mt_P; rw [if_pos q]
    have e2 : mt_P h a b (a x) = x := by unfold mt_P; rw [if_pos g2, g3]
    rw [e, e2]
    exact ⟨⟨g1, by omega⟩, rfl, g4⟩
  · obtain ⟨g1, g2, g3, g4⟩ := hb (x - 2 * h) (by omega) (by omega)
    have e : mt_P h a b x = 2 * h + b (x - 2 * h) := by unfold mt_P; rw [if_neg q]
    have e2 : mt_P h a b (2 * h + b (x - 2 * h)) = x := by
      unfold mt_P
      rw [if_neg (by omega), show 2 * h + b (x - 2 * h) - 2 * h = b (x - 2 * h) by omega, g3]
      omega
    rw [e, e2]
    exact ⟨⟨by omega, by omega⟩, rfl, by omega⟩
theorem mt_J_inv {h x : Int} (hx : mt_in h x) : mt_in h (mt_J h x) ∧ mt_J h (mt_J h x) = x ∧ mt_J h x ≠ x := by
  obtain ⟨h1, h2⟩ := hx
  unfold mt_in mt_J
  by_cases q : x < 2 * h
  · rw [if_pos q, if_neg (by omega)]
    exact ⟨⟨by omega, by omega⟩, by omega, by omega⟩
  · rw [if_neg q, if_pos (by omega)]
    exact ⟨⟨by omega, by omega⟩, by omega, by omega⟩
theorem mt_in_all {h x : Int} (hx : mt_in h x) : mt_all h x := by obtain ⟨h1, h2⟩ := hx; exact ⟨by omega, by omega⟩
/-- a walk of n steps from s, then out at x -/
def mt_W (h : Int) (a b : Int → Int) (n : Nat) (w : Nat → Int) (s x : Int) : Prop := w 0 = s ∧ (∀ i, i < n → mt_in h (mt_P h a b (w i)) ∧ w (i + 1) = mt_J h (mt_P h a b (w i))) ∧ x = mt_P h a b (w n) ∧ ¬ mt_in h x
def mt_T (h : Int) (a b : Int → Int) (s x : Int) : Prop := ∃ n w, mt_W h a b n w s x
theorem mt_W_all {h : Int} {a b : Int → Int} (ha : mt_M h a) (hb : mt_M h b) {n : Nat} {w : Nat → Int} {s x : Int} (hs : mt_all h s) (hw : mt_W h a b n w s x) : ∀ i, i ≤ n → mt_all h (w i) := by
  intro i
  induction i with
  | zero => intro _; rw [hw.1]; exact hs
  | succ i ih =>
    intro hi
    obtain ⟨g1, g2⟩ := hw.2.1 i (by omega)
    rw [g2]
    exact mt_in_all (mt_J_inv g1).1
theorem mt_W_det {h : Int} {a b : Int → Int} {n n' : Nat} {w w' : Nat → Int} {s x x' : Int} (hw : mt_W h a b n w s x) (hw' : mt_W h a b n' w' s x') : n = n' ∧ x = x' ∧ ∀ i, i ≤ n → w i = w' i := by
  have key : ∀ i, i ≤ n → i ≤ n' → w i = w' i := by
    intro i
    induction i with
    | zero => intro _ _; rw [hw.1, hw'.1]
    | succ i ih => intro h1 h2; rw [(hw.2.1 i (by omega)).2, (hw'.2.1 i (by omega)).2, ih (by omega) (by omega)]
  have hn : n = n' := by
    rcases Nat.lt_trichotomy n n' with q | q | q
    · have := (hw'.2.1 n q).1
      rw [← key n (by omega) (by omega), ← hw.2.2.1] at this
      exact absurd this hw.2.2.2
    · exact q
    · have := (hw.2.1 n' q).1
      rw [key n' (by omega) (by omega), ← hw'.2.2.1] at this
      exact absurd this hw'.2.2.2
  subst hn
  exact ⟨rfl, by rw [hw.2.2.1, hw'.2.2.1, key n (by omega) (by omega)], fun i hi => key i hi hi⟩
theorem mt_W_rev {h : Int} {a b : Int → Int} (ha : mt_M h a) (hb : mt_M h b) {n : Nat} {w : Nat → Int} {s x : Int} (hs : mt_all h s) (ho : ¬ mt_in h s) (hw : mt_W h a b n w s x) : mt_W h a b n (fun i => mt_P h a b (w (n - i))) x s := by
  have hA := mt_W_all ha hb hs hw
  refine ⟨hw.2.2.1.symm, fun i hi => ?_, ?_, ho⟩
  · obtain ⟨k, hk⟩ : ∃ k, n - i = k + 1 := ⟨n - i - 1, by omega⟩
    have e1 : mt_P h a b (mt_P h a b (w (n - i))) = w (n - i) := (mt_P_inv ha hb (hA (n - i) (by omega))).2.1
    obtain ⟨g1, g2⟩ := hw.2.1 k (by omega)
    have g3 := mt_J_inv g1
    show mt_in h (mt_P h a b (mt_P h a b (w (n - i)))) ∧ mt_P h a b (w (n - (i + 1))) = mt_J h (mt_P h a b (mt_P h a b (w (n - i))))
    rw [e1, hk, g2, show n - (i + 1) = k by omega]
    exact ⟨g3.1, g3.2.1.symm⟩
  · show s = mt_P h a b (mt_P h a b (w (n - n)))
    rw [Nat.sub_self, hw.1]
    exact (mt_P_inv ha hb hs).2.1.symm
theorem mt_W_ne {h : Int} {a b : Int → Int} (ha : mt_M h a) (hb : mt_M h b) {n : Nat} {w : Nat → Int} {s x : Int} (hs : mt_all h s) (ho : ¬ mt_in h s) (hw : mt_W h a b n w s x) : x ≠ s := by
  intro e
  subst e
  have hA := mt_W_all ha hb hs hw
  have hr := (mt_W_det hw (mt_W_rev ha hb hs ho hw)).2.2
  rcases Nat.mod_two_eq_zero_or_one n with q | q
  · obtain ⟨k, hk⟩ : ∃ k, n = k + k := ⟨n / 2, by omega⟩
    have := hr k (by omega)
    have this : w k = mt_P h a b (w (n - k)) := this
    rw [show n - k = k by omega] at this
    exact (mt_P_inv ha hb (hA k (by omega))).2.2 this.symm
  · obtain ⟨k, hk⟩ : ∃ k, n = k + k + 1 := ⟨n / 2, by omega⟩
    have := hr (k + 1) (by omega)
    have this : w (k + 1) = mt_P h a b (w (n - (k + 1))) := this
    obtain ⟨g1, g2⟩ := hw.2.1 k (by omega)
    rw [show n - (k + 1) = k by omega, g2] at this
    exact (mt_J_inv g1).2.2 this
/-! every thread from an outer end comes out, within 2 h crossings -/
def mt_it (h : Int) (a b : Int → Int) (s : Int) : Nat → Int
  | 0 => s
  | n + 1 => mt_J h (mt_P h a b (mt_it h a b s n))
theorem mt_W_len {h : Int} {a b : Int → Int} (ha : mt_M h a) (hb : mt_M h b) {n : Nat} {w : Nat → Int} {s : Int} (hs : mt_all h s) (ho : ¬ mt_in h s) (h0 : w 0 = s) (hw : ∀ i, i < n → mt_in h (mt_P h a b (w i)) ∧ w (i + 1) = mt_J h (mt_P h a b (w i))) : (n : Int) ≤ 2 * h := by
  have hh : 0 ≤ h := by have := hs.1; have := hs.2; omega
  have hA : ∀ i, i ≤ n → mt_all h (w i) := by
    intro i
    induction i with
    | zero => intro _; rw [h0]; exact hs
    | succ i ih => intro hi; rw [(hw i (by omega)).2]; exact mt_in_all (mt_J_inv (hw i (by omega)).1).1
  have hdis := mt_walk (g := fun x => mt_J h (mt_P h a b x)) (s := s) (I := fun x => mt_all h x ∧ mt_in h (mt_P h a b x)) n w h0 (fun i hi => (hw i hi).2) (fun i hi => ⟨hA i (by omega), (hw i hi).1⟩)
    (fun x y hx hy e => by
      have e : mt_J h (mt_P h a b x) = mt_J h (mt_P h a b y) := e
      have e1 : mt_P h a b x = mt_P h a b y := by rw [← (mt_J_inv hx.2).2.1, ← (mt_J_inv hy.2).2.1, e]
      rw [← (mt_P_inv ha hb hx.1).2.1, ← (mt_P_inv ha hb hy.1).2.1, e1])
    (fun x hx e => by
      have e : mt_J h (mt_P h a b x) = s := e
      exact ho (e ▸ (mt_J_inv hx.2).1))
  rcases Int.lt_or_le (2 * h) n with q | q
  · obtain ⟨i, j, hij, hj, e⟩ := mt_ph (2 * h).toNat (fun i => w (i + 1) - h) (fun i hi => by
      have hi2 : i < n := by omega
      have g : mt_in h (w (i + 1)) := by rw [(hw i hi2).2]; exact (mt_J_inv (hw i hi2).1).1
      obtain ⟨g1, g2⟩ := g
      show 0 ≤ w (i + 1) - h ∧ w (i + 1) - h < ((2 * h).toNat : Nat)
      constructor <;> omega)
    have e : w (i + 1) - h = w (j + 1) - h := e
    exact absurd (show w (i + 1) = w (j + 1) by omega) (hdis (i + 1) (j + 1) (by omega) (by omega))
  · exact q
theorem mt_exist {h : Int} {a b : Int → Int} (ha : mt_M h a) (hb : mt_M h b) {s : Int} (hs : mt_all h s) (ho : ¬ mt_in h s) : ∃ (n : Nat) (x : Int), mt_W h a b n (mt_it h a b s) s x ∧ (n : Int) ≤ 2 * h ∧ mt_all h x := by
  have hh : 0 ≤ h := by have := hs.1; have := hs.2; omega
  have step : ∀ k : Nat, (∀ i, i < k → mt_in h (mt_P h a b (mt_it h a b s i))) ∨ ∃ n, n < k ∧ (∀ i, i < n → mt_in h (mt_P h a b (mt_it h a b s i))) ∧ ¬ mt_in h (mt_P h a b (mt_it h a b s n)) := by
    intro k
    induction k with
    | zero => exact Or.inl (fun i hi => absurd hi (by omega))
    | succ k ih =>
      rcases ih with q | ⟨n, h1, h2, h3⟩
      · by_cases c : mt_in h (mt_P h a b (mt_it h a b s k))
        · refine Or.inl (fun i hi => ?_)
          rcases Nat.lt_or_ge i k with z | z
          · exact q i z
          · have : i = k := by omega
            subst this; exact c
        · exact Or.inr ⟨k, by omega, q, c⟩
      · exact Or.inr ⟨n, by omega, h2, h3⟩
  rcases step ((2 * h).toNat + 1) with q | ⟨n, h1, h2, h3⟩
  · have := mt_W_len ha hb (n := (2 * h).toNat + 1) hs ho (w := mt_it h a b s) rfl (fun i hi => ⟨q i hi, rfl⟩)
    omega
  · have hw : mt_W h a b n (mt_it h a b s) s (mt_P h a b (mt_it h a b s n)) := ⟨rfl, fun i hi => ⟨h2 i hi, rfl⟩, rfl, h3⟩
    exact ⟨n, _, hw, by omega, (mt_P_inv ha hb (mt_W_all ha hb hs hw n (Nat.le_refl n))).1⟩
/-! the matching that a with b behind it makes -/
def mt_out (h : Int) (a b : Int → Int) : Nat → Int → Int
  | 0, x => mt_P h a b x
  | n + 1, x => if h ≤ mt_P h a b x ∧ mt_P h a b x < 3 * h then mt_out h a b n (mt_J h (mt_P h a b x)) else mt_P h a b x
theorem mt_out_W {h : Int} {a b : Int → Int} : ∀ (n N : Nat) (w : Nat → Int) (s x : Int), mt_W h a b n w s x → n ≤ N → mt_out h a b N s = x := by
  intro n
  induction n with
  | zero =>
    intro N w s x hw _
    have e : x = mt_P h a b s := by rw [hw.2.2.1, hw.1]
    have ho : ¬ (h ≤ mt_P h a b s ∧ mt_P h a b s < 3 * h) := fun q => hw.2.2.2 (by rw [e]; exact q)
    cases N with
    | zero => exact e.symm
    | succ N => unfold mt_out; rw [if_neg ho, e]
  | succ n ih =>
    intro N w s x hw hN
    cases N with
    | zero => omega
    | succ N =>
      obtain ⟨g1, g2⟩ := hw.2.1 0 (by omega)
      rw [hw.1] at g1 g2
      unfold mt_out
      rw [if_pos (show h ≤ mt_P h a b s ∧ mt_P h a b s < 3 * h from g1)]
      refine ih N (fun i => w (i + 1)) _ x ⟨g2, fun i hi => hw.2.1 (i + 1) (by omega), hw.2.2.1, hw.2.2.2⟩ (by omega)
/-- an end of the whole as a start, a place outside as an end -/
def mt_s (h e : Int) : Int := if e < h then e else 2 * h + e
def mt_e (h x : Int) : Int := if x < h then x else x - 2 * h
def mt_prod (h : Int) (a b : Int → Int) (e : Int) : Int := mt_e h (mt_out h a b 10 (mt_s h e))
theorem mt_s_all {h e : Int} (h0 : 0 ≤ e) (h1 : e < 2 * h) : mt_all h (mt_s h e) ∧ ¬ mt_in h (mt_s h e) ∧ mt_e h (mt_s h e) = e := by
  unfold mt_all mt_in mt_e mt_s
  by_cases q : e < h
  · rw [if_pos q, if_pos q]; exact ⟨⟨by omega, by omega⟩, by omega, rfl⟩
  · rw [if_neg q, if_neg (by omega)]; exact ⟨⟨by omega, by omega⟩, by omega, by omega⟩
theorem mt_e_s {h x : Int} (hx : mt_all h x) (ho : ¬ mt_in h x) : 0 ≤ mt_e h x ∧ mt_e h x < 2 * h ∧ mt_s h (mt_e h x) = x := by
  have ho : ¬ (h ≤ x ∧ x < 3 * h) := ho
  obtain ⟨h1, h2⟩ := hx
  unfold mt_e mt_s
  by_cases q : x < h
  · rw [if_pos q, if_pos q]; exact ⟨by omega, by omega, rfl⟩
  · rw [if_neg q, if_neg (by omega)]; exact ⟨by omega, by omega, by omega⟩
theorem mt_prod_M {h : Int} {a b : Int → Int} (h5 : h ≤ 5) (ha : mt_M h a) (hb : mt_M h b) : mt_M h (mt_prod h a b) := by
  intro e h0 h1
  obtain ⟨s1, s2, s3⟩ := mt_s_all h0 h1
  obtain ⟨n, x, hw, hn, hx⟩ := mt_exist ha hb s1 s2
  have e1 : mt_out h a b 10 (mt_s h e) = x := mt_out_W n 10 _ _ x hw (by omega)
  obtain ⟨g1, g2, g3⟩ := mt_e_s hx hw.2.2.2
  have e2 : mt_prod h a b e = mt_e h x := by unfold mt_prod; rw [e1]
  have e3 : mt_out h a b 10 x = mt_s h e := mt_out_W n 10 _ _ _ (mt_W_rev ha hb s1 s2 hw) (by omega)
  rw [e2]
  refine ⟨g1, g2, ?_, fun q => ?_⟩
  · unfold mt_prod; rw [g3, e3, s3]
  · exact mt_W_ne ha hb s1 s2 hw (by rw [← g3, q])
/-! a thread followed: its length, the rails that it meets -/
def mt_R (h : Int) (ra rb : Int → Int) (x : Int) : Int := if x < 2 * h then ra x else rb (x - 2 * h)
def mt_rl (h y : Int) : Int := if y < 2 * h then y - h else y - 2 * h
def mt_sum (h : Int) (a b ra rb : Int → Int) : Nat → Int → Int → Int
  | 0, x, acc => w64 (acc + mt_R h ra rb x)
  | n + 1, x, acc => if h ≤ mt_P h a b x ∧ mt_P h a b x < 3 * h then mt_sum h a b ra rb n (mt_J h (mt_P h a b x)) (w64 (acc + mt_R h ra rb x)) else w64 (acc + mt_R h ra rb x)
def mt_met (h : Int) (a b : Int → Int) : Nat → Int → Int → Int
  | 0, _, m => m
  | n + 1, x, m => if h ≤ mt_P h a b x ∧ mt_P h a b x < 3 * h then mt_met h a b n (mt_J h (mt_P h a b x)) (b_or m (b_shl 1 (mt_rl h (mt_P h a b x)))) else m
theorem mt_met_out {h : Int} {a b : Int → Int} {F : Nat} {x m : Int} (ho : ¬ mt_in h (mt_P h a b x)) : mt_met h a b F x m = m := by
  cases F with
  | zero => rfl
  | succ F => unfold mt_met; exact if_neg ho
theorem mt_sum_out {h : Int} {a b ra rb : Int → Int} {F : Nat} {x acc : Int} (ho : ¬ mt_in h (mt_P h a b x)) : mt_sum h a b ra rb F x acc = w64 (acc + mt_R h ra rb x) := by
  cases F with
  | zero => rfl
  | succ F => unfold mt_sum; exact if_neg ho
theorem mt_met_in {h : Int} {a b : Int → Int} {F : Nat} {x m : Int} (hi : mt_in h (mt_P h a b x)) : mt_met h a b (F + 1) x m = mt_met h a b F (mt_J h (mt_P h a b x)) (b_or m (b_shl 1 (mt_rl h (mt_P h a b x)))) := by
  conv => lhs; unfold mt_met
  exact if_pos hi
theorem mt_sum_in {h : Int} {a b ra rb : Int → Int} {F : Nat} {x acc : Int} (hi : mt_in h (mt_P h a b x)) : mt_sum h a b ra rb (F + 1) x acc = mt_sum h a b ra rb F (mt_J h (mt_P h a b x)) (w64 (acc + mt_R h ra rb x)) := by
  conv => lhs; unfold mt_sum
  exact if_pos hi
theorem mt_W_shift {h : Int} {a b : Int → Int} {n : Nat} {w : Nat → Int} {s x : Int} (hw : mt_W h a b (n + 1) w s x) : mt_in h (mt_P h a b s) ∧ mt_W h a b n (fun i => w (i + 1)) (mt_J h (mt_P h a b s)) x := by
  obtain ⟨g1, g2⟩ := hw.2.1 0 (by omega)
  rw [hw.1] at g1 g2
  exact ⟨g1, g2, fun i hi => hw.2.1 (i + 1) (by omega), hw.2.2.1, hw.2.2.2⟩
/-- the class's loop: x6 is the end, x9 says whether it is a's -/
def mt_x (h at_ inA : Int) : Int := if inA = 0 then 2 * h + at_ else at_
theorem s_joinFrom_L {Q : Int → ml_St → Prop} {K : ml_St → Int → Int → Int → Int → Prop} {th p2 p3 h x1 : Int} {σ : ml_St} (h2 : 2 ≤ h) (h5 : h ≤ 5) (ha : mt_M h (σ (p2 + 1))) (hb : mt_M h (σ (p3 + 1))) : ∀ (n : Nat) (F N : Nat) (w : Nat → Int) (x : Int) (x5 x6 x7 x9 x11 : Int), mt_W h (σ (p2 + 1)) (σ (p3 + 1)) n w (mt_x h x6 x9) x → 0 ≤ x6 → x6 < 2 * h → (x9 = 0 ∨ x9 = 1) → n ≤ F → n + 1 < N → 0 ≤ x11 → x11 + n ≤ 10 →
    K σ x1 (mt_met h (σ (p2 + 1)) (σ (p3 + 1)) F (mt_x h x6 x9) x5) (mt_e h x) (mt_sum h (σ (p2 + 1)) (σ (p3 + 1)) (σ (p2 + 2)) (σ (p3 + 2)) F (mt_x h x6 x9) x7) → f_X9_joinFrom_u28 Q K th p2 p3 N σ x1 h x5 x6 x7 x9 1 x11 := by
  -- one round: the end y = in.pair[x6], then on by u87
  have one : ∀ (N : Nat) (x5 x6 x7 x9 x11 : Int), 0 ≤ x6 → x6 < 2 * h → (x9 = 0 ∨ x9 = 1) → 0 ≤ x11 → x11 ≤ 10 →
      (∀ y, (x9 = 1 → y = σ (p2 + 1) x6 ∧ mt_P h (σ (p2 + 1)) (σ (p3 + 1)) (mt_x h x6 x9) = y) → (x9 = 0 → y = σ (p3 + 1) x6 ∧ mt_P h (σ (p2 + 1)) (σ (p3 + 1)) (mt_x h x6 x9) = 2 * h + y) → 0 ≤ y → y < 2 * h →
        f_X9_joinFrom_u87 Q (f_X9_joinFrom_u28 Q K th p2 p3 N) th p2 p3 σ x1 h x5 y (w64 (x7 + mt_R h (σ (p2 + 2)) (σ (p3 + 2)) (mt_x h x6 x9))) x9 x11 (if y < h then 0 else 1)) →
      f_X9_joinFrom_u28 Q K th p2 p3 (N + 1) σ x1 h x5 x6 x7 x9 1 x11 := by
    intro N x5 x6 x7 x9 x11 h0 h1 h9 h11 hb11 k
    unfold f_X9_joinFrom_u28
    refine ⟨fun c => absurd c (by omega), fun _ => ⟨fun c => absurd c (by omega), fun _ => ⟨fun c => ?_, fun c => ?_⟩⟩⟩
    · subst c
      obtain ⟨g1, g2, g3, g4⟩ := hb x6 h0 h1
      have e1 : mt_x h x6 0 = 2 * h + x6 := by unfold mt_x; rw [if_pos rfl]
      have e2 : mt_P h (σ (p2 + 1)) (σ (p3 + 1)) (2 * h + x6) = 2 * h + σ (p3 + 1) x6 := by unfold mt_P; rw [if_neg (by omega), show 2 * h + x6 - 2 * h = x6 by omega]
      have e3 : mt_R h (σ (p2 + 2)) (σ (p3 + 2)) (2 * h + x6) = σ (p3 + 2) x6 := by unfold mt_R; rw [if_neg (by omega), show 2 * h + x6 - 2 * h = x6 by omega]
      have k2 := k (σ (p3 + 1) x6) (fun c => absurd c (by omega)) (fun _ => ⟨rfl, by rw [e1, e2]⟩) g1 g2
      rw [e1, e3] at k2
      unfold f_X9_joinFrom_u50
      refine ⟨h0, by omega, fun _ y3 ey3 => ⟨h0, by omega, fun _ y5 ey5 => ⟨fun c => ?_, fun c => ?_⟩⟩⟩
      · subst ey3; subst ey5; rw [if_pos c] at k2; exact k2
      · subst ey3; subst ey5; rw [if_neg c] at k2; exact k2
    · have h91 : x9 = 1 := by omega
      subst h91
      obtain ⟨g1, g2, g3, g4⟩ := ha x6 h0 h1
      have e1 : mt_x h x6 1 = x6 := by unfold mt_x; rw [if_neg (by omega)]
      have e2 : mt_P h (σ (p2 + 1)) (σ (p3 + 1)) x6 = σ (p2 + 1) x6 := by unfold mt_P; rw [if_pos h1]
      have e3 : mt_R h (σ (p2 + 2)) (σ (p3 + 2)) x6 = σ (p2 + 2) x6 := by unfold mt_R; rw [if_pos h1]
      have k2 := k (σ (p2 + 1) x6) (fun _ => ⟨rfl, by rw [e1, e2]⟩) (fun c => absurd c (by omega)) g1 g2
      rw [e1, e3] at k2
      unfold f_X9_joinFrom_u50
      refine ⟨h0, by omega, fun _ y3 ey3 => ⟨h0, by omega, fun _ y5 ey5 => ⟨fun c => ?_, fun c => ?_⟩⟩⟩
      · subst ey3; subst ey5; rw [if_pos c] at k2; exact k2
      · subst ey3; subst ey5; rw [if_neg c] at k2; exact k2
  intro n
  induction n with
  | zero =>
    intro F N w x x5 x6 x7 x9 x11 hw h0 h1 h9 hF hN h11 hb11 k
    obtain ⟨N, rfl⟩ : ∃ N', N = N' + 2 := ⟨N - 2, by omega⟩
    have hx : x = mt_P h (σ (p2 + 1)) (σ (p3 + 1)) (mt_x h x6 x9) := by rw [hw.2.2.1, hw.1]
    have ho : ¬ mt_in h (mt_P h (σ (p2 + 1)) (σ (p3 + 1)) (mt_x h x6 x9)) := hx ▸ hw.2.2.2
    rw [mt_met_out ho, mt_sum_out ho, hx] at k
    refine one (N + 1) x5 x6 x7 x9 x11 h0 h1 h9 h11 (by omega) (fun y yA yB y0 y2 => ?_)
    have go : ∀ acc, K σ x1 x5 y acc → f_X9_joinFrom_u97 Q (f_X9_joinFrom_u28 Q K th p2 p3 (N + 1)) th p2 p3 σ x1 h x5 y acc x9 x11 0 := by
      intro acc hk
      unfold f_X9_joinFrom_u97
      refine ⟨fun _ => ⟨⟨by omega, by omega⟩, fun y1 _ => ?_⟩, fun c => absurd rfl c⟩
      unfold f_X9_joinFrom_u28
      exact ⟨fun _ => hk, fun c => absurd rfl c⟩
    unfold f_X9_joinFrom_u87
    rcases h9 with q | q
    · obtain ⟨e1, e2⟩ := yB q
      rw [e2] at ho k
      have hy : ¬ y < h := fun c => ho ⟨by omega, by omega⟩
      rw [if_neg hy, q]
      have e3 : mt_e h (2 * h + y) = y := by unfold mt_e; rw [if_neg (by omega)]; omega
      rw [e3] at k
      subst q
      exact ⟨fun _ => go _ k, fun c => absurd c (by omega)⟩
    · obtain ⟨e1, e2⟩ := yA q
      rw [e2] at ho k
      have hy : y < h := by
        rcases Int.lt_or_le y h with c | c
        · exact c
        · exact absurd (show mt_in h y from ⟨c, by omega⟩) ho
      rw [if_pos hy, q]
      have e3 : mt_e h y = y := by unfold mt_e; rw [if_pos hy]
      rw [e3] at k
      subst q
      exact ⟨fun _ => go _ k, fun c => absurd c (by omega)⟩
  | succ n ih =>
    intro F N w x x5 x6 x7 x9 x11 hw h0 h1 h9 hF hN h11 hb11 k
    obtain ⟨N, rfl⟩ : ∃ N', N = N' + 1 := ⟨N - 1, by omega⟩
    obtain ⟨F, rfl⟩ : ∃ F', F = F' + 1 := ⟨F - 1, by omega⟩
    obtain ⟨hi, hw2⟩ := mt_W_shift hw
    rw [mt_met_in hi, mt_sum_in hi] at k
    refine one N x5 x6 x7 x9 x11 h0 h1 h9 h11 (by omega) (fun y yA yB y0 y2 => ?_)
    unfold f_X9_joinFrom_u87
    rcases h9 with q | q
    · obtain ⟨e1, e2⟩ := yB q
      rw [e2] at hi k hw2
      have hy : y < h := by have := hi.2; omega
      rw [if_pos hy]
      subst q
      have ex : mt_x h (y + h) 1 = mt_J h (2 * h + y) := by unfold mt_x mt_J; rw [if_neg (by omega), if_neg (by omega)]; omega
      have er : mt_rl h (2 * h + y) = y := by unfold mt_rl; rw [if_neg (by omega)]; omega
      refine ⟨fun c => absurd rfl c, fun _ => ⟨fun c => absurd c (by omega), fun _ => ⟨fun _ => ?_, fun c => absurd rfl c⟩⟩⟩
      unfold f_X9_joinFrom_u119
      intro y1 ey1
      refine ⟨fun _ => ⟨⟨by omega, by omega⟩, ⟨fun c => absurd rfl c, fun _ => ⟨⟨by omega, by omega⟩, fun y9 e9 => ?_⟩⟩⟩, fun c => absurd rfl c⟩
      subst ey1; subst e9
      rw [er, ← ex] at k
      rw [← ex] at hw2
      exact ih F N _ x _ _ _ 1 _ hw2 (by omega) (by omega) (Or.inr rfl) (by omega) (by omega) (by omega) (by omega) k
    · obtain ⟨e1, e2⟩ := yA q
      rw [e2] at hi k hw2
      have hy : ¬ y < h := by have := hi.1; omega
      rw [if_neg hy]
      subst q
      have ex : mt_x h (y - h) 0 = mt_J h y := by unfold mt_x mt_J; rw [if_pos rfl, if_pos (by omega)]; omega
      have er : mt_rl h y = y - h := by unfold mt_rl; rw [if_pos (by omega)]
      refine ⟨fun c => absurd rfl c, fun _ => ⟨fun c => absurd c (by omega), fun _ => ⟨fun c => absurd c (by omega), fun _ => ⟨⟨by omega, by omega⟩, ?_⟩⟩⟩⟩
      unfold f_X9_joinFrom_u119
      intro y1 ey1
      refine ⟨fun c => absurd c (by omega), fun _ => ⟨fun _ => ⟨⟨by omega, by omega⟩, fun y9 e9 => ?_⟩, fun c => absurd c (by omega)⟩⟩
      subst ey1; subst e9
      rw [er, ← ex] at k
      rw [← ex] at hw2
      exact ih F N _ x _ _ _ 0 _ hw2 (by omega) (by omega) (Or.inl rfl) (by omega) (by omega) (by omega) (by omega) k
theorem s_joinFrom {Q : Int → ml_St → Prop} {th p2 p3 h x1 : Int} {σ : ml_St} (h2 : 2 ≤ h) (h5 : h ≤ 5) (ha : mt_M h (σ (p2 + 1))) (hb : mt_M h (σ (p3 + 1))) (h0 : 0 ≤ x1) (h1 : x1 < 2 * h)
    (q : Q (mt_met h (σ (p2 + 1)) (σ (p3 + 1)) 10 (mt_s h x1) 0) (ml_up (ml_up σ (th + 1) x1 (mt_prod h (σ (p2 + 1)) (σ (p3 + 1)) x1)) (th + 2) x1 (mt_sum h (σ (p2 + 1)) (σ (p3 + 1)) (σ (p2 + 2)) (σ (p3 + 2)) 10 (mt_s h x1) 0))) : f_X9_joinFrom σ th p2 p3 x1 h Q := by
  obtain ⟨s1, s2, s3⟩ := mt_s_all h0 h1
  obtain ⟨n, x, hw, hn, hx⟩ := mt_exist ha hb s1 s2
  have e1 : mt_prod h (σ (p2 + 1)) (σ (p3 + 1)) x1 = mt_e h x := by unfold mt_prod; rw [mt_out_W n 10 _ _ x hw (by omega)]
  rw [e1] at q
  have go : ∀ i : Int, (i = 0 ∨ i = 1) → mt_x h x1 i = mt_s h x1 → f_X9_joinFrom_u20 Q th p2 p3 σ x1 h 0 x1 0 i := by
    intro i hi ei
    unfold f_X9_joinFrom_u20
    refine ⟨n + 2, s_joinFrom_L h2 h5 ha hb n 10 (n + 2) (mt_it h (σ (p2 + 1)) (σ (p3 + 1)) (mt_s h x1)) x 0 x1 0 i 0 (by rw [ei]; exact hw) h0 h1 hi (by omega) (by omega) (by omega) (by omega) ?_⟩
    rw [ei]
    unfold f_X9_joinFrom_u165
    exact ⟨h0, by omega, fun σ1 g1 => ⟨h0, by omega, fun σ2 g2 => by subst g1; subst g2; exact q⟩⟩
  unfold f_X9_joinFrom f_X9_joinFrom_u0
  refine ⟨fun c => go 0 (Or.inl rfl) ?_, fun c => go 1 (Or.inr rfl) ?_⟩
  · unfold mt_x mt_s; rw [if_pos rfl, if_neg (by omega)]
  · unfold mt_x mt_s; rw [if_neg (by omega), if_pos (by omega)]
/-! the model's thread: leads -/
def mt_lead (h : Int) (a b ra rb : Int → Int) : Nat → Int → ml_St → ml_St
  | 0, x, τ => ml_up τ 215 27 (w64 (τ 215 27 + mt_R h ra rb x))
  | n + 1, x, τ => if h ≤ mt_P h a b x ∧ mt_P h a b x < 3 * h then mt_lead h a b ra rb n (mt_J h (mt_P h a b x)) (ml_up (ml_up τ 215 27 (w64 (τ 215 27 + mt_R h ra rb x))) 232 (mt_rl h (mt_P h a b x)) 1) else ml_up τ 215 27 (w64 (τ 215 27 + mt_R h ra rb x))
theorem mt_lead_out {h : Int} {a b ra rb : Int → Int} {F : Nat} {x : Int} {τ : ml_St} (ho : ¬ mt_in h (mt_P h a b x)) : mt_lead h a b ra rb F x τ = ml_up τ 215 27 (w64 (τ 215 27 + mt_R h ra rb x)) := by
  cases F with
  | zero => rfl
  | succ F => unfold mt_lead; exact if_neg ho
theorem mt_lead_in {h : Int} {a b ra rb : Int → Int} {F : Nat} {x : Int} {τ : ml_St} (hi : mt_in h (mt_P h a b x)) : mt_lead h a b ra rb (F + 1) x τ = mt_lead h a b ra rb F (mt_J h (mt_P h a b x)) (ml_up (ml_up τ 215 27 (w64 (τ 215 27 + mt_R h ra rb x))) 232 (mt_rl h (mt_P h a b x)) 1) := by
  conv => lhs; unfold mt_lead
  exact if_pos hi
theorem s_leads_L {Q : Int → ml_St → Prop} {K : ml_St → Int → Prop} {x1 x2 h : Int} {a b ra rb : Int → Int} (h2 : 2 ≤ h) (h5 : h ≤ 5) (r1 : 0 ≤ x1) (r2 : x1 < 64) (r3 : 0 ≤ x2) (r4 : x2 < 64) (ha : mt_M h a) (hb : mt_M h b) : ∀ (n : Nat) (F N : Nat) (w : Nat → Int) (x : Int) (x5 x6 : Int) (τ : ml_St), mt_W h a b n w (mt_x h x5 x6) x → 0 ≤ x5 → x5 < 2 * h → (x6 = 0 ∨ x6 = 1) → n ≤ F → n < N →
    τ 215 2 = h → (∀ e, 0 ≤ e → e < 2 * h → τ 227 (10 * x1 + e) = a e ∧ τ 227 (10 * x2 + e) = b e ∧ τ 228 (10 * x1 + e) = ra e ∧ τ 228 (10 * x2 + e) = rb e) →
    K (mt_lead h a b ra rb F (mt_x h x5 x6) τ) (mt_e h x) → f_X12_leads_u12 Q K N τ x1 x2 x5 x6 := by
  have one : ∀ (N : Nat) (x5 x6 : Int) (τ : ml_St), 0 ≤ x5 → x5 < 2 * h → (x6 = 0 ∨ x6 = 1) → τ 215 2 = h → (∀ e, 0 ≤ e → e < 2 * h → τ 227 (10 * x1 + e) = a e ∧ τ 227 (10 * x2 + e) = b e ∧ τ 228 (10 * x1 + e) = ra e ∧ τ 228 (10 * x2 + e) = rb e) →
      (∀ y, (x6 = 1 → mt_P h a b (mt_x h x5 x6) = y) → (x6 = 0 → mt_P h a b (mt_x h x5 x6) = 2 * h + y) → 0 ≤ y → y < 2 * h →
        f_X12_leads_u77 Q (f_X12_leads_u12 Q K N) K (ml_up τ 215 27 (w64 (τ 215 27 + mt_R h ra rb (mt_x h x5 x6)))) x1 x2 y x6 x6 (if h ≤ y then 0 else 1)) →
      f_X12_leads_u12 Q K (N + 1) τ x1 x2 x5 x6 := by
    intro N x5 x6 τ h0 h1 h6 t2 tA k
    obtain ⟨p1, p2, p3, p4⟩ := tA x5 h0 h1
    have u27 : ∀ v, ml_up τ 215 27 v 215 2 = h := fun v => by rw [ml_up_i (by omega), t2]
    have u227 : ∀ v j, ml_up τ 215 27 v 227 j = τ 227 j := fun v j => by rw [ml_up_k (by omega)]
    unfold f_X12_leads_u12
    refine ⟨fun c => ?_, fun c => ?_⟩
    · subst c
      obtain ⟨g1, g2, g3, g4⟩ := hb x5 h0 h1
      have e1 : mt_x h x5 0 = 2 * h + x5 := by unfold mt_x; rw [if_pos rfl]
      have e2 : mt_P h a b (2 * h + x5) = 2 * h + b x5 := by unfold mt_P; rw [if_neg (by omega), show 2 * h + x5 - 2 * h = x5 by omega]
      have e3 : mt_R h ra rb (2 * h + x5) = rb x5 := by unfold mt_R; rw [if_neg (by omega), show 2 * h + x5 - 2 * h = x5 by omega]
      have k2 := k (b x5) (fun c => absurd c (by omega)) (fun _ => by rw [e1, e2]) g1 g2
      rw [e1, e3] at k2
      unfold f_X12_leads_u22
      refine fun _ => ⟨⟨by omega, by omega⟩, ⟨by omega, by omega⟩, by omega, by omega, fun _ σ6 e6 => ⟨⟨by omega, by omega⟩, ⟨by omega, by omega⟩, by omega, by omega, fun _ y10 e10 _ => ?_⟩⟩
      rw [p4] at e6
      subst e6
      rw [u227, p2] at e10
      subst e10
      rw [u27]
      refine ⟨fun c => ?_, fun c => ?_⟩
      · rw [if_pos c] at k2; exact k2
      · rw [if_neg c] at k2; exact k2
    · have h61 : x6 = 1 := by omega
      subst h61
      obtain ⟨g1, g2, g3, g4⟩ := ha x5 h0 h1
      have e1 : mt_x h x5 1 = x5 := by unfold mt_x; rw [if_neg (by omega)]
      have e2 : mt_P h a b x5 = a x5 := by unfold mt_P; rw [if_pos h1]
      have e3 : mt_R h ra rb x5 = ra x5 := by unfold mt_R; rw [if_pos h1]
      have k2 := k (a x5) (fun _ => by rw [e1, e2]) (fun c => absurd c (by omega)) g1 g2
      rw [e1, e3] at k2
      unfold f_X12_leads_u22
      refine fun _ => ⟨⟨by omega, by omega⟩, ⟨by omega, by omega⟩, by omega, by omega, fun _ σ6 e6 => ⟨⟨by omega, by omega⟩, ⟨by omega, by omega⟩, by omega, by omega, fun _ y10 e10 _ => ?_⟩⟩
      rw [p3] at e6
      subst e6
      rw [u227, p1] at e10
      subst e10
      rw [u27]
      refine ⟨fun c => ?_, fun c => ?_⟩
      · rw [if_pos c] at k2; exact k2
      · rw [if_neg c] at k2; exact k2
  intro n
  induction n with
  | zero =>
    intro F N w x x5 x6 τ hw h0 h1 h6 hF hN t2 tA k
    obtain ⟨N, rfl⟩ : ∃ N', N = N' + 1 := ⟨N - 1, by omega⟩
    have hx : x = mt_P h a b (mt_x h x5 x6) := by rw [hw.2.2.1, hw.1]
    have ho : ¬ mt_in h (mt_P h a b (mt_x h x5 x6)) := hx ▸ hw.2.2.2
    rw [mt_lead_out ho, hx] at k
    refine one N x5 x6 τ h0 h1 h6 t2 tA (fun y yA yB y0 y2 => ?_)
    unfold f_X12_leads_u77
    rcases h6 with q | q
    · have e2 := yB q
      rw [e2] at ho k
      have hy : h ≤ y := by
        rcases Int.lt_or_le y h with c | c
        · exact absurd (show mt_in h (2 * h + y) from ⟨by omega, by omega⟩) ho
        · exact c
      rw [if_pos hy, q]
      have e3 : mt_e h (2 * h + y) = y := by unfold mt_e; rw [if_neg (by omega)]; omega
      rw [e3] at k
      subst q
      exact ⟨fun c => absurd rfl c, fun _ => k⟩
    · have e2 := yA q
      rw [e2] at ho k
      have hy : ¬ h ≤ y := fun c => ho ⟨c, by omega⟩
      rw [if_neg hy, q]
      have e3 : mt_e h y = y := by unfold mt_e; rw [if_pos (by omega)]
      rw [e3] at k
      subst q
      exact ⟨fun c => absurd rfl c, fun _ => k⟩
  | succ n ih =>
    intro F N w x x5 x6 τ hw h0 h1 h6 hF hN t2 tA k
    obtain ⟨N, rfl⟩ : ∃ N', N = N' + 1 := ⟨N - 1, by omega⟩
    obtain ⟨F, rfl⟩ : ∃ F', F = F' + 1 := ⟨F - 1, by omega⟩
    obtain ⟨hi, hw2⟩ := mt_W_shift hw
    rw [mt_lead_in hi] at k
    refine one N x5 x6 τ h0 h1 h6 t2 tA (fun y yA yB y0 y2 => ?_)
    have w2 : ∀ v r, ml_up (ml_up τ 215 27 v) 232 r 1 215 2 = h := fun v r => by rw [ml_up_k (by omega), ml_up_i (by omega), t2]
    have wA : ∀ v r, (∀ e, 0 ≤ e → e < 2 * h → ml_up (ml_up τ 215 27 v) 232 r 1 227 (10 * x1 + e) = a e ∧ ml_up (ml_up τ 215 27 v) 232 r 1 227 (10 * x2 + e) = b e ∧ ml_up (ml_up τ 215 27 v) 232 r 1 228 (10 * x1 + e) = ra e ∧ ml_up (ml_up τ 215 27 v) 232 r 1 228 (10 * x2 + e) = rb e) := fun v r e he1 he2 => by
      rw [ml_up_k (by omega), ml_up_k (by omega), ml_up_k (by omega), ml_up_k (by omega)]
      exact tA e he1 he2
    unfold f_X12_leads_u77
    rcases h6 with q | q
    · have e2 := yB q
      rw [e2] at hi k hw2
      have hy : ¬ h ≤ y := by have := hi.2; omega
      rw [if_neg hy]
      subst q
      have ex : mt_x h (y + h) 1 = mt_J h (2 * h + y) := by unfold mt_x mt_J; rw [if_neg (by omega), if_neg (by omega)]; omega
      have er : mt_rl h (2 * h + y) = y := by unfold mt_rl; rw [if_neg (by omega)]; omega
      refine ⟨fun _ => ⟨fun _ => ?_, fun c => absurd rfl c⟩, fun c => absurd c (by omega)⟩
      unfold f_X12_leads_u100
      refine ⟨by omega, by omega, fun σ1 g1 => ⟨fun _ _ => ?_, fun c => absurd rfl c⟩⟩
      subst g1
      rw [w2]
      refine ⟨⟨by omega, by omega⟩, ⟨fun c => absurd rfl c, fun _ => ?_⟩⟩
      rw [er, ← ex] at k
      rw [← ex] at hw2
      exact ih F N _ x _ 1 _ hw2 (by omega) (by omega) (Or.inr rfl) (by omega) (by omega) (w2 _ _) (wA _ _) k
    · have e2 := yA q
      rw [e2] at hi k hw2
      have hy : h ≤ y := hi.1
      rw [if_pos hy]
      subst q
      have ex : mt_x h (y - h) 0 = mt_J h y := by unfold mt_x mt_J; rw [if_pos rfl, if_pos (by omega)]; omega
      have er : mt_rl h y = y - h := by unfold mt_rl; rw [if_pos (by omega)]
      refine ⟨fun _ => ⟨fun c => absurd c (by omega), fun _ _ => ?_⟩, fun c => absurd c (by omega)⟩
      rw [ml_up_i (by omega), t2]
      refine ⟨⟨by omega, by omega⟩, ?_⟩
      unfold f_X12_leads_u100
      refine ⟨by omega, by omega, fun σ1 g1 => ⟨fun c => absurd c (by omega), fun _ => ⟨fun _ => ?_, fun c => absurd c (by omega)⟩⟩⟩
      subst g1
      rw [er, ← ex] at k
      rw [← ex] at hw2
      exact ih F N _ x _ 0 _ hw2 (by omega) (by omega) (Or.inl rfl) (by omega) (by omega) (w2 _ _) (wA _ _) k
theorem s_leads {Q : Int → ml_St → Prop} {x1 x2 x3 x4 h : Int} {a b ra rb : Int → Int} {σ : ml_St} (h2 : 2 ≤ h) (h5 : h ≤ 5) (r1 : 0 ≤ x1) (r2 : x1 < 64) (r3 : 0 ≤ x2) (r4 : x2 < 64) (ha : mt_M h a) (hb : mt_M h b) (h0 : 0 ≤ x4) (h1 : x4 < 2 * h) (h3 : x3 = 0 ∨ x3 = 1) (hs : mt_x h x4 x3 = mt_s h x4)
    (t2 : σ 215 2 = h) (tA : ∀ e, 0 ≤ e → e < 2 * h → σ 227 (10 * x1 + e) = a e ∧ σ 227 (10 * x2 + e) = b e ∧ σ 228 (10 * x1 + e) = ra e ∧ σ 228 (10 * x2 + e) = rb e)
    (q : Q (mt_prod h a b x4) (mt_lead h a b ra rb 10 (mt_s h x4) (ml_up σ 215 27 0))) : f_X12_leads σ x1 x2 x3 x4 Q := by
  obtain ⟨s1, s2, s3⟩ := mt_s_all h0 h1
  obtain ⟨n, x, hw, hn, hx⟩ := mt_exist ha hb s1 s2
  have e1 : mt_prod h a b x4 = mt_e h x := by unfold mt_prod; rw [mt_out_W n 10 _ _ x hw (by omega)]
  rw [e1] at q
  unfold f_X12_leads f_X12_leads_u0
  intro σ1 g1
  subst g1
  refine ⟨n + 1, s_leads_L (ra := ra) (rb := rb) h2 h5 r1 r2 r3 r4 ha hb n 10 (n + 1) (mt_it h a b (mt_s h x4)) x x4 x3 _ (by rw [hs]; exact hw) h0 h1 h3 (by omega) (by omega) (by rw [ml_up_i (by omega), t2]) (fun e he1 he2 => ?_) ?_⟩
  · rw [ml_up_k (by omega), ml_up_k (by omega)]
    exact tA e he1 he2
  · rw [hs]
    exact q
/-! BITS of masks -/
theorem mb_n {a : Nat} (h : a < 2147483648) : (Int32.ofInt (a : Int)).toBitVec.toNat = a := by
  show (BitVec.ofInt 32 (a : Int)).toNat = a
  rw [BitVec.toNat_ofInt]
  omega
theorem mb_i {x : Int32} (h : x.toBitVec.toNat < 2147483648) : x.toInt = (x.toBitVec.toNat : Int) := by
  show x.toBitVec.toInt = _
  rw [BitVec.toInt_eq_toNat_of_lt (by omega)]
theorem mb_or {a b : Nat} (ha : a < 2147483648) (hb : b < 2147483648) : b_or (a : Int) (b : Int) = ((a ||| b : Nat) : Int) := by
  have e : (Int32.ofInt (a : Int) ||| Int32.ofInt (b : Int)).toBitVec.toNat = a ||| b := by
    rw [Int32.toBitVec_or, BitVec.toNat_or, mb_n ha, mb_n hb]
  unfold b_or
  rw [mb_i, e]
  rw [e]
  exact Nat.or_lt_two_pow (n := 31) ha hb
theorem mb_and {a b : Nat} (ha : a < 2147483648) (hb : b < 2147483648) : b_and (a : Int) (b : Int) = ((a &&& b : Nat) : Int) := by
  have e : (Int32.ofInt (a : Int) &&& Int32.ofInt (b : Int)).toBitVec.toNat = a &&& b := by
    rw [Int32.toBitVec_and, BitVec.toNat_and, mb_n ha, mb_n hb]
  unfold b_and
  rw [mb_i, e]
  rw [e]
  exact Nat.lt_of_le_of_lt Nat.and_le_left ha
theorem mb_31 {r : Nat} (h : r < 32) : (Int32.ofInt (r : Int) &&& 31) = Int32.ofInt (r : Int) := by
  apply Int32.toBitVec_inj.1
  apply BitVec.eq_of_toNat_eq
  rw [Int32.toBitVec_and, BitVec.toNat_and, mb_n (by omega)]
  show r &&& 31 = r
  exact Nat.and_two_pow_sub_one_of_lt_two_pow (n := 5) h
theorem mb_sm : ∀ r : Nat, r < 32 → ((Int32.ofInt (r : Int)).toBitVec.smod (32 : BitVec 32)).toNat = r := by decide +kernel
theorem mb_msb {a : Nat} (ha : a < 2147483648) : (Int32.ofInt (a : Int)).toBitVec.msb = false := by
  rw [BitVec.msb_eq_false_iff_two_mul_lt, mb_n ha]
  omega
theorem mb_shr {a r : Nat} (ha : a < 2147483648) (hr : r < 32) : b_shr (a : Int) (r : Int) = ((a >>> r : Nat) : Int) := by
  have e : (Int32.ofInt (a : Int) >>> Int32.ofInt (r : Int)).toBitVec.toNat = a >>> r := by
    rw [Int32.toBitVec_shiftRight, BitVec.toNat_sshiftRight'_of_msb_false (mb_msb ha), mb_n ha]
    exact congrArg (a >>> ·) (mb_sm r hr)
  unfold b_shr
  rw [mb_31 hr, mb_i, e]
  rw [e]
  exact Nat.lt_of_le_of_lt (Nat.shiftRight_le a r) ha
theorem mb_shl {r : Nat} (hr : r < 31) : b_shl 1 (r : Int) = ((2 ^ r : Nat) : Int) := by
  have h : ∀ r : Nat, r < 31 → b_shl 1 (r : Int) = ((2 ^ r : Nat) : Int) := by decide +kernel
  exact h r hr
/-- bit r of m -/
def mb_t (m r : Int) : Int := b_and (b_shr m r) 1
theorem mb_t_n {a r : Nat} (ha : a < 2147483648) (hr : r < 32) : mb_t (a : Int) (r : Int) = if a.testBit r then 1 else 0 := by
  unfold mb_t
  rw [mb_shr ha hr]
  have e : b_and ((a >>> r : Nat) : Int) ((1 : Nat) : Int) = (((a >>> r) &&& 1 : Nat) : Int) := mb_and (Nat.lt_of_le_of_lt (Nat.shiftRight_le a r) ha) (by omega)
  rw [show (1 : Int) = ((1 : Nat) : Int) from rfl, e, Nat.testBit]
  rw [Nat.and_comm]
  have h2 : 1 &&& (a >>> r) = 0 ∨ 1 &&& (a >>> r) = 1 := by
    rw [Nat.and_comm, Nat.and_one_is_mod]
    omega
  rcases h2 with q | q <;> rw [q] <;> rfl
/-- masks -/
def mb_m (k : Nat) (m : Int) : Prop := 0 ≤ m ∧ m < 2 ^ k
theorem mb_or_m {k : Nat} (hk : k ≤ 31) {a b : Int} (ha : mb_m k a) (hb : mb_m k b) : mb_m k (b_or a b) ∧ ∀ j : Int, 0 ≤ j → j < 32 → mb_t (b_or a b) j = if mb_t a j = 1 ∨ mb_t b j = 1 then 1 else 0 := by
  obtain ⟨a, rfl⟩ := Int.eq_ofNat_of_zero_le ha.1
  obtain ⟨b, rfl⟩ := Int.eq_ofNat_of_zero_le hb.1
  have p : (2 : Nat) ^ k ≤ 2 ^ 31 := Nat.pow_le_pow_right (by omega) hk
  have ha2 : a < 2 ^ k := by have := ha.2; exact_mod_cast this
  have hb2 : b < 2 ^ k := by have := hb.2; exact_mod_cast this
  have ha3 : a < 2147483648 := by omega
  have hb3 : b < 2147483648 := by omega
  have hc : a ||| b < 2 ^ k := Nat.or_lt_two_pow ha2 hb2
  rw [mb_or ha3 hb3]
  refine ⟨⟨by omega, by exact_mod_cast hc⟩, fun j j0 j1 => ?_⟩
  obtain ⟨j, rfl⟩ := Int.eq_ofNat_of_zero_le j0
  rw [mb_t_n (by omega) (by omega), mb_t_n ha3 (by omega), mb_t_n hb3 (by omega), Nat.testBit_or]
  cases a.testBit j <;> cases b.testBit j <;> rfl
theorem mb_shl_m {k : Nat} (hk : k ≤ 31) {r : Int} (h0 : 0 ≤ r) (h1 : r < k) : mb_m k (b_shl 1 r) ∧ ∀ j : Int, 0 ≤ j → j < 32 → mb_t (b_shl 1 r) j = if j = r then 1 else 0 := by
  obtain ⟨r, rfl⟩ := Int.eq_ofNat_of_zero_le h0
  have h1 : r < k := by omega
  have p : (2 : Nat) ^ r < 2 ^ k := Nat.pow_lt_pow_right (by omega) h1
  have p2 : (2 : Nat) ^ k ≤ 2 ^ 31 := Nat.pow_le_pow_right (by omega) hk
  rw [mb_shl (by omega)]
  refine ⟨⟨Int.natCast_nonneg _, by exact_mod_cast p⟩, fun j j0 j1 => ?_⟩
  obtain ⟨j, rfl⟩ := Int.eq_ofNat_of_zero_le j0
  rw [mb_t_n (by omega) (by omega), Nat.testBit_two_pow]
  by_cases c : r = j
  · subst c; simp
  · have c2 : ¬ ((j : Int) = (r : Int)) := by omega
    simp [c, c2]
theorem mb_0 (j : Int) : mb_t 0 j = 0 := by
  unfold mb_t b_shr b_and
  have : (Int32.ofInt 0 >>> (Int32.ofInt j &&& 31)) = 0 := by
    apply Int32.toBitVec_inj.1
    rw [Int32.toBitVec_shiftRight]
    show BitVec.sshiftRight' (0#32) _ = 0#32
    simp [BitVec.sshiftRight']
  rw [this]
  decide
theorem mb_t_01 (m j : Int) : mb_t m j = 0 ∨ mb_t m j = 1 := by
  unfold mb_t b_and
  generalize Int32.ofInt (b_shr m j) = z
  have e : (z &&& Int32.ofInt 1).toBitVec.toNat = z.toBitVec.toNat % 2 := by
    rw [Int32.toBitVec_and, BitVec.toNat_and]
    show z.toBitVec.toNat &&& 1 = _
    exact Nat.and_one_is_mod _
  rw [mb_i (by rw [e]; omega), e]
  omega
/-! which rails the threads from outside meet; what is left over is closed -/
theorem w64_al (x y : Int) : w64 (w64 x + y) = w64 (x + y) := by
  unfold w64
  rw [Int64.ofInt_add, Int64.ofInt_toInt, Int64.ofInt_add]
theorem w64_ar (x y : Int) : w64 (x + w64 y) = w64 (x + y) := by
  unfold w64
  rw [Int64.ofInt_add, Int64.ofInt_toInt, Int64.ofInt_add]
def mt_eq (h : Int) (f a : Int → Int) : Prop := ∀ e, 0 ≤ e → e < 2 * h → f e = a e
theorem mt_eq_P {h : Int} {f g a b : Int → Int} (ef : mt_eq h f a) (eg : mt_eq h g b) {x : Int} (hx : mt_all h x) : mt_P h f g x = mt_P h a b x := by
  obtain ⟨h1, h2⟩ := hx
  unfold mt_P
  by_cases q : x < 2 * h
  · rw [if_pos q, if_pos q, ef x h1 q]
  · rw [if_neg q, if_neg q, eg _ (by omega) (by omega)]
theorem mt_eq_R {h : Int} {f g a b : Int → Int} (ef : mt_eq h f a) (eg : mt_eq h g b) {x : Int} (hx : mt_all h x) : mt_R h f g x = mt_R h a b x := by
  obtain ⟨h1, h2⟩ := hx
  unfold mt_R
  by_cases q : x < 2 * h
  · rw [if_pos q, if_pos q, ef x h1 q]
  · rw [if_neg q, if_neg q, eg _ (by omega) (by omega)]
theorem mt_eq_M {h : Int} {f a : Int → Int} (ef : mt_eq h f a) (ha : mt_M h a) : mt_M h f := by
  intro e h0 h1
  obtain ⟨g1, g2, g3, g4⟩ := ha e h0 h1
  rw [ef e h0 h1, ef _ g1 g2]
  exact ⟨g1, g2, g3, g4⟩
theorem mt_eq_out {h : Int} {f g a b : Int → Int} (ef : mt_eq h f a) (eg : mt_eq h g b) : ∀ (n : Nat) (x : Int), mt_all h x → mt_out h f g n x = mt_out h a b n x := by
  intro n
  induction n with
  | zero => intro x hx; exact mt_eq_P ef eg hx
  | succ n ih =>
    intro x hx
    unfold mt_out
    rw [mt_eq_P ef eg hx]
    by_cases q : h ≤ mt_P h a b x ∧ mt_P h a b x < 3 * h
    · rw [if_pos q, if_pos q]; exact ih _ (mt_in_all (mt_J_inv q).1)
    · rw [if_neg q, if_neg q]
theorem mt_eq_sum {h : Int} {f g a b rf rg ra rb : Int → Int} (ef : mt_eq h f a) (eg : mt_eq h g b) (erf : mt_eq h rf ra) (erg : mt_eq h rg rb) : ∀ (n : Nat) (x acc : Int), mt_all h x → mt_sum h f g rf rg n x acc = mt_sum h a b ra rb n x acc := by
  intro n
  induction n with
  | zero => intro x acc hx; unfold mt_sum; rw [mt_eq_R erf erg hx]
  | succ n ih =>
    intro x acc hx
    unfold mt_sum
    rw [mt_eq_P ef eg hx, mt_eq_R erf erg hx]
    by_cases q : h ≤ mt_P h a b x ∧ mt_P h a b x < 3 * h
    · rw [if_pos q, if_pos q]; exact ih _ _ (mt_in_all (mt_J_inv q).1)
    · rw [if_neg q, if_neg q]
theorem mt_eq_met {h : Int} {f g a b : Int → Int} (ef : mt_eq h f a) (eg : mt_eq h g b) : ∀ (n : Nat) (x m : Int), mt_all h x → mt_met h f g n x m = mt_met h a b n x m := by
  intro n
  induction n with
  | zero => intro x m hx; rfl
  | succ n ih =>
    intro x m hx
    unfold mt_met
    rw [mt_eq_P ef eg hx]
    by_cases q : h ≤ mt_P h a b x ∧ mt_P h a b x < 3 * h
    · rw [if_pos q, if_pos q]; exact ih _ _ (mt_in_all (mt_J_inv q).1)
    · rw [if_neg q, if_neg q]
/-- the thread from x meets rail r -/
def mt_hit (h : Int) (a b : Int → Int) : Nat → Int → Int → Prop
  | 0, _, _ => False
  | n + 1, x, r => (h ≤ mt_P h a b x ∧ mt_P h a b x < 3 * h) ∧ (mt_rl h (mt_P h a b x) = r ∨ mt_hit h a b n (mt_J h (mt_P h a b x)) r)
theorem mt_hit_s {h : Int} {a b : Int → Int} {n : Nat} {x r : Int} : mt_hit h a b (n + 1) x r ↔ (h ≤ mt_P h a b x ∧ mt_P h a b x < 3 * h) ∧ (mt_rl h (mt_P h a b x) = r ∨ mt_hit h a b n (mt_J h (mt_P h a b x)) r) := Iff.rfl
theorem mt_rl_r {h y : Int} (hy : mt_in h y) : 0 ≤ mt_rl h y ∧ mt_rl h y < h := by
  obtain ⟨h1, h2⟩ := hy
  unfold mt_rl
  split <;> omega
theorem mt_met_bit {h : Int} {a b : Int → Int} (h5 : h ≤ 5) : ∀ (n : Nat) (x m : Int), mb_m 5 m → mb_m 5 (mt_met h a b n x m) ∧ ∀ r, 0 ≤ r → r < h → (mb_t (mt_met h a b n x m) r = 1 ↔ mb_t m r = 1 ∨ mt_hit h a b n x r) := by
  intro n
  induction n with
  | zero => intro x m hm; exact ⟨hm, fun r _ _ => ⟨Or.inl, fun q => q.elim id (fun c => c.elim)⟩⟩
  | succ n ih =>
    intro x m hm
    by_cases q : h ≤ mt_P h a b x ∧ mt_P h a b x < 3 * h
    · rw [mt_met_in q]
      have hr := mt_rl_r q
      obtain ⟨s1, s2⟩ := mb_shl_m (k := 5) (by omega) hr.1 (by omega)
      obtain ⟨o1, o2⟩ := mb_or_m (k := 5) (by omega) hm s1
      obtain ⟨i1, i2⟩ := ih (mt_J h (mt_P h a b x)) _ o1
      refine ⟨i1, fun r r0 r1 => ?_⟩
      rw [i2 r r0 r1, o2 r r0 (by omega), s2 r r0 (by omega)]
      rw [mt_hit_s]
      by_cases c : mb_t m r = 1
      · simp [c]
      · by_cases d : r = mt_rl h (mt_P h a b x)
        · subst d; simp [q]
        · simp only [c, d, false_or, if_false, q]
          simp [Ne.symm d]
    · rw [mt_met_out q]
      refine ⟨hm, fun r _ _ => ?_⟩
      rw [mt_hit_s]
      simp only [q, false_and, or_false]
theorem mt_hit_W {h : Int} {a b : Int → Int} {r : Int} : ∀ (N : Nat) (n : Nat) (w : Nat → Int) (s x : Int), mt_W h a b n w s x → n ≤ N → (mt_hit h a b N s r ↔ ∃ i, i < n ∧ mt_rl h (mt_P h a b (w i)) = r) := by
  intro N
  induction N with
  | zero =>
    intro n w s x hw hn
    have : n = 0 := by omega
    subst this
    exact ⟨fun c => c.elim, fun ⟨i, hi, _⟩ => absurd hi (by omega)⟩
  | succ N ih =>
    intro n w s x hw hn
    cases n with
    | zero =>
      have ho : ¬ (h ≤ mt_P h a b s ∧ mt_P h a b s < 3 * h) := fun c => hw.2.2.2 (by rw [hw.2.2.1, hw.1]; exact c)
      rw [mt_hit_s]
      exact ⟨fun c => absurd c.1 ho, fun ⟨i, hi, _⟩ => absurd hi (by omega)⟩
    | succ n =>
      obtain ⟨g1, g2⟩ := mt_W_shift hw
      have e := ih n _ _ x g2 (by omega)
      rw [mt_hit_s]
      rw [e]
      constructor
      · rintro ⟨_, c | ⟨i, hi, c⟩⟩
        · exact ⟨0, by omega, by rw [hw.1]; exact c⟩
        · exact ⟨i + 1, by omega, c⟩
      · rintro ⟨i, hi, c⟩
        refine ⟨g1, ?_⟩
        cases i with
        | zero => left; rw [hw.1] at c; exact c
        | succ i => right; exact ⟨i, by omega, c⟩
/-- no thread from outside meets r -/
def mt_U (h : Int) (a b : Int → Int) (r : Int) : Prop := ∀ e, 0 ≤ e → e < 2 * h → ¬ mt_hit h a b 10 (mt_s h e) r
theorem mt_U_cl {h : Int} {a b : Int → Int} (h5 : h ≤ 5) (ha : mt_M h a) (hb : mt_M h b) {y : Int} (hy : mt_in h y) (u : mt_U h a b (mt_rl h y)) : mt_in h (mt_P h a b y) ∧ mt_U h a b (mt_rl h (mt_P h a b y)) := by
  have hA := mt_in_all hy
  obtain ⟨p1, p2, p3⟩ := mt_P_inv ha hb hA
  have rJ : mt_rl h (mt_J h y) = mt_rl h y := by
    obtain ⟨y1, y2⟩ := hy
    unfold mt_rl mt_J
    by_cases q : y < 2 * h
    · rw [if_pos q, if_pos q, if_neg (by omega)]; omega
    · rw [if_neg q, if_neg q, if_pos (by omega)]; omega
  have i1 : mt_in h (mt_P h a b y) := by
    rcases Classical.em (mt_in h (mt_P h a b y)) with c | c
    · exact c
    · exfalso
      obtain ⟨e1, e2, e3⟩ := mt_e_s p1 c
      refine u _ e1 e2 ?_
      rw [e3]
      rw [mt_hit_s]
      rw [p2]
      exact ⟨hy, Or.inl rfl⟩
  refine ⟨i1, fun e h0 h1 hit => ?_⟩
  obtain ⟨s1, s2, s3⟩ := mt_s_all h0 h1
  obtain ⟨n, x, hw, hn, hx⟩ := mt_exist ha hb s1 s2
  have hn10 : n ≤ 10 := by omega
  obtain ⟨i, hi, c⟩ := (mt_hit_W 10 n _ _ x hw hn10).1 hit
  have nu : ∀ i, i < n → mt_rl h (mt_P h a b (mt_it h a b (mt_s h e) i)) ≠ mt_rl h y := fun i hi c => u e h0 h1 ((mt_hit_W 10 n _ _ x hw hn10).2 ⟨i, hi, c⟩)
  have wA := mt_W_all ha hb s1 hw
  have wi := (hw.2.1 i hi).1
  have two : mt_P h a b (mt_it h a b (mt_s h e) i) = mt_P h a b y ∨ mt_P h a b (mt_it h a b (mt_s h e) i) = mt_J h (mt_P h a b y) := by
    revert c wi i1
    generalize mt_P h a b (mt_it h a b (mt_s h e) i) = u
    generalize mt_P h a b y = v
    intro i1 c wi
    obtain ⟨v1, v2⟩ := i1
    obtain ⟨u1, u2⟩ := wi
    unfold mt_rl at c
    unfold mt_J
    by_cases q : u < 2 * h <;> by_cases q2 : v < 2 * h
    · rw [if_pos q, if_pos q2] at c; left; omega
    · rw [if_pos q, if_neg q2] at c; right; rw [if_neg q2]; omega
    · rw [if_neg q, if_pos q2] at c; right; rw [if_pos q2]; omega
    · rw [if_neg q, if_neg q2] at c; left; omega
  rcases two with t | t
  · have e1 : mt_it h a b (mt_s h e) i = y := by
      rw [← (mt_P_inv ha hb (wA i (by omega))).2.1, t, p2]
    cases i with
    | zero =>
      have : mt_s h e = y := by rw [← hw.1]; exact e1
      exact s2 (by rw [this]; exact hy)
    | succ i =>
      have g := hw.2.1 i (by omega)
      rw [g.2] at e1
      refine nu i (by omega) ?_
      rw [← rJ, ← e1, (mt_J_inv g.1).2.1]
  · have g := hw.2.1 i hi
    have e1 : mt_it h a b (mt_s h e) (i + 1) = mt_P h a b y := by rw [g.2, t, (mt_J_inv i1).2.1]
    have e2 : mt_P h a b (mt_it h a b (mt_s h e) (i + 1)) = y := by rw [e1, p2]
    rcases Nat.lt_or_ge (i + 1) n with l | l
    · exact nu (i + 1) l (by rw [e2])
    · have : n = i + 1 := by omega
      subst this
      exact hw.2.2.2 (by rw [hw.2.2.1, e2]; exact hy)
/-! what a with b behind it makes, as one function: 0.. pairs, 10.. lengths, 20 loops, 21 longest, 22 total, 23 signs, 24 crosses, 25 turns -/
def mt_ln (a : Int → Int) (e : Int) : Int := a (10 + e)
def mt_mm (h : Int) (a b : Int → Int) : Nat → Int
  | 0 => 0
  | n + 1 => b_or (mt_mm h a b n) (mt_met h a b 10 (mt_s h n) 0)
def mt_r1 (h : Int) (a b : Int → Int) (m s t : Int) : Int × Int × Int := (b_or m (b_or (b_shl 1 (b t)) (b_shl 1 (a (b t + h) - h))), w64 (s + w64 (b (10 + t) + a (10 + (b t + h)))), a (b t + h) - h)
def mt_rg (h : Int) (a b : Int → Int) (r : Int) : Int × Int × Int := if (mt_r1 h a b 0 0 r).2.2 = r then mt_r1 h a b 0 0 r else mt_r1 h a b (mt_r1 h a b 0 0 r).1 (mt_r1 h a b 0 0 r).2.1 (mt_r1 h a b 0 0 r).2.2
def mt_rs (h : Int) (a b : Int → Int) : Nat → Int × Int × Int × Int
  | 0 => (mt_mm h a b (2 * h).toNat, w64 (a 20 + b 20), max (a 21) (b 21), w64 (a 22 + b 22))
  | n + 1 => if mb_t (mt_rs h a b n).1 n = 0 then (b_or (mt_rs h a b n).1 (mt_rg h a b n).1, w64 ((mt_rs h a b n).2.1 + 1), max (mt_rs h a b n).2.2.1 (mt_rg h a b n).2.1, w64 ((mt_rs h a b n).2.2.2 + (mt_rg h a b n).2.1)) else mt_rs h a b n
def mt_both (h : Int) (a b : Int → Int) (i : Int) : Int :=
  if i < 10 then mt_prod h a b i
  else if i < 20 then mt_sum h a b (mt_ln a) (mt_ln b) 10 (mt_s h (i - 10)) 0
  else if i = 20 then (mt_rs h a b h.toNat).2.1
  else if i = 21 then (mt_rs h a b h.toNat).2.2.1
  else if i = 22 then (mt_rs h a b h.toNat).2.2.2
  else if i = 23 then w64 (a 23 + min (b 23) (w64 (9000000000000000000 - a 23)))
  else if i = 24 then (if a 24 = 0 ∧ b 24 = 0 then 0 else 1)
  else (if a 25 = 0 ∧ b 25 = 0 then 0 else 1)
theorem mt_eq_both {h : Int} {a b : Int → Int} (h5 : h ≤ 5) : mt_eq h (mt_both h a b) (mt_prod h a b) := fun e h0 h1 => by
  unfold mt_both; rw [if_pos (by omega)]
theorem mt_both_M {h : Int} {a b : Int → Int} (h5 : h ≤ 5) (ha : mt_M h a) (hb : mt_M h b) : mt_M h (mt_both h a b) := mt_eq_M (mt_eq_both h5) (mt_prod_M h5 ha hb)
/-- m's rails are apart from the others: b and a lead from one that isn't in m to such a one -/
def mt_C (h : Int) (a b : Int → Int) (m : Int) : Prop := mb_m 5 m ∧ ∀ r, 0 ≤ r → r < h → mb_t m r = 0 → (b r < h ∧ mb_t m (b r) = 0) ∧ (h ≤ a (r + h) ∧ mb_t m (a (r + h) - h) = 0)
theorem mt_mm_bit {h : Int} {a b : Int → Int} (h5 : h ≤ 5) : ∀ n : Nat, mb_m 5 (mt_mm h a b n) ∧ ∀ r, 0 ≤ r → r < h → (mb_t (mt_mm h a b n) r = 1 ↔ ∃ e : Nat, e < n ∧ mt_hit h a b 10 (mt_s h e) r) := by
  intro n
  induction n with
  | zero =>
    refine ⟨⟨by unfold mt_mm; omega, by unfold mt_mm; omega⟩, fun r _ _ => ?_⟩
    unfold mt_mm
    rw [mb_0]
    exact ⟨fun c => absurd c (by omega), fun ⟨e, he, _⟩ => absurd he (by omega)⟩
  | succ n ih =>
    obtain ⟨i1, i2⟩ := ih
    obtain ⟨j1, j2⟩ := mt_met_bit (a := a) (b := b) h5 10 (mt_s h n) 0 ⟨by omega, by omega⟩
    obtain ⟨o1, o2⟩ := mb_or_m (k := 5) (by omega) i1 j1
    refine ⟨o1, fun r r0 r1 => ?_⟩
    show mb_t (b_or (mt_mm h a b n) (mt_met h a b 10 (mt_s h n) 0)) r = 1 ↔ _
    rw [o2 r r0 (by omega)]
    have j3 := j2 r r0 r1
    rw [mb_0] at j3
    have i3 := i2 r r0 r1
    constructor
    · intro c
      by_cases q : mb_t (mt_mm h a b n) r = 1
      · obtain ⟨e, he, hh⟩ := i3.1 q
        exact ⟨e, by omega, hh⟩
      · by_cases q2 : mb_t (mt_met h a b 10 (mt_s h n) 0) r = 1
        · rcases j3.1 q2 with z | z
          · exact absurd z (by omega)
          · exact ⟨n, by omega, z⟩
        · rw [if_neg (by simp [q, q2])] at c
          exact absurd c (by omega)
    · rintro ⟨e, he, hh⟩
      rcases Nat.lt_or_ge e n with l | l
      · rw [if_pos (Or.inl (i3.2 ⟨e, l, hh⟩))]
      · have : e = n := by omega
        subst this
        rw [if_pos (Or.inr (j3.2 (Or.inr hh)))]
theorem mt_mm_C {h : Int} {a b : Int → Int} (h2 : 0 ≤ h) (h5 : h ≤ 5) (ha : mt_M h a) (hb : mt_M h b) : mt_C h a b (mt_mm h a b (2 * h).toNat) := by
  obtain ⟨m1, m2⟩ := mt_mm_bit (a := a) (b := b) h5 (2 * h).toNat
  have key : ∀ r, 0 ≤ r → r < h → (mb_t (mt_mm h a b (2 * h).toNat) r = 0 ↔ mt_U h a b r) := by
    intro r r0 r1
    have g := m2 r r0 r1
    have z := mb_t_01 (mt_mm h a b (2 * h).toNat) r
    constructor
    · intro c e h0 h1 hit
      have : mb_t (mt_mm h a b (2 * h).toNat) r = 1 := g.2 ⟨e.toNat, by omega, by rw [show ((e.toNat : Nat) : Int) = e by omega]; exact hit⟩
      omega
    · intro u
      rcases z with z | z
      · exact z
      · obtain ⟨e, he, hit⟩ := g.1 z
        exact absurd hit (u e (by omega) (by omega))
  refine ⟨m1, fun r r0 r1 c => ?_⟩
  have u := (key r r0 r1).1 c
  constructor
  · have e1 : mt_rl h (2 * h + r) = r := by unfold mt_rl; rw [if_neg (by omega)]; omega
    have e2 : mt_P h a b (2 * h + r) = 2 * h + b r := by unfold mt_P; rw [if_neg (by omega), show 2 * h + r - 2 * h = r by omega]
    obtain ⟨g1, g2⟩ := mt_U_cl (y := 2 * h + r) h5 ha hb ⟨by omega, by omega⟩ (by rw [e1]; exact u)
    rw [e2] at g1 g2
    have hb1 := hb r r0 (by omega)
    have l : b r < h := by have := g1.2; omega
    have e3 : mt_rl h (2 * h + b r) = b r := by unfold mt_rl; rw [if_neg (by omega)]; omega
    rw [e3] at g2
    exact ⟨l, (key _ hb1.1 l).2 g2⟩
  · have e1 : mt_rl h (r + h) = r := by unfold mt_rl; rw [if_pos (by omega)]; omega
    have e2 : mt_P h a b (r + h) = a (r + h) := by unfold mt_P; rw [if_pos (by omega)]
    obtain ⟨g1, g2⟩ := mt_U_cl (y := r + h) h5 ha hb ⟨by omega, by omega⟩ (by rw [e1]; exact u)
    rw [e2] at g1 g2
    have ha1 := ha (r + h) (by omega) (by omega)
    have e3 : mt_rl h (a (r + h)) = a (r + h) - h := by unfold mt_rl; rw [if_pos (by omega)]
    rw [e3] at g2
    have := g1.1
    exact ⟨by omega, (key _ (by omega) (by omega)).2 g2⟩
theorem mt_six {a b c d e f : Int} (a0 : 0 ≤ a ∧ a < 5) (b0 : 0 ≤ b ∧ b < 5) (c0 : 0 ≤ c ∧ c < 5) (d0 : 0 ≤ d ∧ d < 5) (e0 : 0 ≤ e ∧ e < 5) (f0 : 0 ≤ f ∧ f < 5) (h1 : b ≠ a) (h2 : c ≠ a) (h3 : c ≠ b) (h4 : d ≠ a) (h5 : d ≠ b) (h6 : d ≠ c) (h7 : e ≠ a) (h8 : e ≠ b) (h9 : e ≠ c) (h10 : e ≠ d) (h11 : f ≠ a) (h12 : f ≠ b) (h13 : f ≠ c) (h14 : f ≠ d) (h15 : f ≠ e) : False := by
  obtain ⟨i, j, hij, hj, q⟩ := mt_ph 5 (fun i => if i = 0 then a else if i = 1 then b else if i = 2 then c else if i = 3 then d else if i = 4 then e else f) (fun i hi => by
    show 0 ≤ (if i = 0 then a else if i = 1 then b else if i = 2 then c else if i = 3 then d else if i = 4 then e else f) ∧ (if i = 0 then a else if i = 1 then b else if i = 2 then c else if i = 3 then d else if i = 4 then e else f) < 5
    split
    · exact a0
    split
    · exact b0
    split
    · exact c0
    split
    · exact d0
    split
    · exact e0
    · exact f0)
  have hj2 : j = 1 ∨ j = 2 ∨ j = 3 ∨ j = 4 ∨ j = 5 := by omega
  have hi2 : i = 0 ∨ i = 1 ∨ i = 2 ∨ i = 3 ∨ i = 4 := by omega
  rcases hj2 with z | z | z | z | z <;> subst z <;> rcases hi2 with y | y | y | y | y <;> subst y <;> first | exact absurd hij (by decide) | exact h1 q.symm | exact h2 q.symm | exact h3 q.symm | exact h4 q.symm | exact h5 q.symm | exact h6 q.symm | exact h7 q.symm | exact h8 q.symm | exact h9 q.symm | exact h10 q.symm | exact h11 q.symm | exact h12 q.symm | exact h13 q.symm | exact h14 q.symm | exact h15 q.symm
/-- the ring of a rail that isn't in m: one round, or two -/
theorem mt_rg_C {h : Int} {a b : Int → Int} (h5 : h ≤ 5) (ha : mt_M h a) (hb : mt_M h b) {m r : Int} (hm : mt_C h a b m) (r0 : 0 ≤ r) (r1 : r < h) (hr : mb_t m r = 0) :
    ∃ o t, b r = o ∧ a (o + h) = t + h ∧ 0 ≤ o ∧ o < h ∧ 0 ≤ t ∧ t < h ∧ o ≠ r ∧ t ≠ o ∧ b o = r ∧ a (t + h) = o + h ∧ mb_t m o = 0 ∧ mb_t m t = 0 ∧ (t = r ∨ (t ≠ r ∧ ∃ o2, b t = o2 ∧ a (o2 + h) = r + h ∧ 0 ≤ o2 ∧ o2 < h ∧ o2 ≠ r ∧ o2 ≠ o ∧ o2 ≠ t ∧ b o2 = t ∧ a (r + h) = o2 + h ∧ mb_t m o2 = 0)) := by
  have st : ∀ r, 0 ≤ r → r < h → mb_t m r = 0 → ∃ o t, b r = o ∧ a (o + h) = t + h ∧ 0 ≤ o ∧ o < h ∧ 0 ≤ t ∧ t < h ∧ o ≠ r ∧ t ≠ o ∧ b o = r ∧ a (t + h) = o + h ∧ mb_t m o = 0 ∧ mb_t m t = 0 := by
    intro r r0 r1 hr
    obtain ⟨⟨c1, c2⟩, -⟩ := hm.2 r r0 r1 hr
    obtain ⟨b1, b2, b3, b4⟩ := hb r r0 (by omega)
    obtain ⟨-, d1, d2⟩ := hm.2 (b r) b1 c1 c2
    obtain ⟨a1, a2, a3, a4⟩ := ha (b r + h) (by omega) (by omega)
    refine ⟨b r, a (b r + h) - h, rfl, by omega, b1, c1, by omega, by omega, b4, by omega, b3, ?_, c2, d2⟩
    rw [show a (b r + h) - h + h = a (b r + h) by omega, a3]
  obtain ⟨o, t, e1, e2, o0, o1, t0, t1, n1, n2, e3, e4, z1, z2⟩ := st r r0 r1 hr
  refine ⟨o, t, e1, e2, o0, o1, t0, t1, n1, n2, e3, e4, z1, z2, ?_⟩
  by_cases q : t = r
  · exact Or.inl q
  right
  refine ⟨q, ?_⟩
  obtain ⟨o2, t2, f1, f2, p0, p1, q0, q1, m1, m2, f3, f4, y1, y2⟩ := st t t0 t1 z2
  have k1 : o2 ≠ r := fun c => by rw [c, e1] at f3; exact n2 f3.symm
  have k2 : o2 ≠ o := fun c => by rw [c, e3] at f3; exact q f3.symm
  have k3 : t2 ≠ t := fun c => by rw [c, e4] at f4; exact k2 (by omega)
  have k4 : t2 ≠ o := fun c => by
    have := f4
    rw [c, e2] at this
    omega
  have k5 : t2 = r := by
    rcases Classical.em (t2 = r) with c | c
    · exact c
    exfalso
    obtain ⟨o3, t3, g1, g2, u0, u1, v0, v1, w1, w2, g3, g4, x1, x2⟩ := st t2 q0 q1 y2
    have l1 : o3 ≠ r := fun c => by rw [c, e1] at g3; exact k4 g3.symm
    have l2 : o3 ≠ o := fun d => by rw [d, e3] at g3; exact c g3.symm
    have l3 : o3 ≠ t := fun d => by rw [d, f1] at g3; exact m2 g3.symm
    have l4 : o3 ≠ o2 := fun d => by rw [d, f3] at g3; exact k3 g3.symm
    exact mt_six (a := r) (b := o) (c := t) (d := o2) (e := t2) (f := o3) ⟨r0, by omega⟩ ⟨o0, by omega⟩ ⟨t0, by omega⟩ ⟨p0, by omega⟩ ⟨q0, by omega⟩ ⟨u0, by omega⟩ n1 q n2 k1 k2 m1 c k4 k3 m2 l1 l2 l3 l4 w1
  subst k5
  exact ⟨o2, f1, f2, p0, p1, k1, k2, m1, f3, f4, y1⟩
theorem mt_rg_e {h : Int} {a b : Int → Int} (h5 : h ≤ 5) (ha : mt_M h a) (hb : mt_M h b) {m r : Int} (hm : mt_C h a b m) (r0 : 0 ≤ r) (r1 : r < h) (hr : mb_t m r = 0) : mb_m 5 (mt_rg h a b r).1 ∧ mt_C h a b (b_or m (mt_rg h a b r).1) ∧ (∀ j, 0 ≤ j → j < h → (mb_t (b_or m (mt_rg h a b r).1) j = 1 ↔ mb_t m j = 1 ∨ mb_t (mt_rg h a b r).1 j = 1)) := by
  obtain ⟨o, t, e1, e2, o0, o1, t0, t1, n1, n2, e3, e4, z1, z2, c⟩ := mt_rg_C h5 ha hb hm r0 r1 hr
  have at1 : a (o + h) - h = t := by omega
  have sh : ∀ r : Int, 0 ≤ r → r < h → mb_m 5 (b_shl 1 r) ∧ ∀ j : Int, 0 ≤ j → j < 32 → mb_t (b_shl 1 r) j = if j = r then 1 else 0 := fun r r0 r1 => mb_shl_m (k := 5) (by omega) r0 (by omega)
  obtain ⟨so, so2⟩ := sh o o0 o1
  obtain ⟨st, st2⟩ := sh t t0 t1
  obtain ⟨s2, s22⟩ := mb_or_m (k := 5) (by omega) so st
  obtain ⟨s3, s32⟩ := mb_or_m (k := 5) (a := 0) (by omega) ⟨by omega, by omega⟩ s2
  have zero : ∀ j, mb_t 0 j = 0 := mb_0
  rcases c with c | ⟨nc, o2, f1, f2, p0, p1, k1, k2, k3, f3, f4, y1⟩
  · have er : (mt_rg h a b r).1 = b_or 0 (b_or (b_shl 1 o) (b_shl 1 t)) := by
      unfold mt_rg mt_r1
      rw [e1, at1, if_pos c]
    rw [er]
    have hb1 : ∀ j, 0 ≤ j → j < h → (mb_t (b_or 0 (b_or (b_shl 1 o) (b_shl 1 t))) j = 1 ↔ j = o ∨ j = t) := by
      intro j j0 j1
      rw [s32 j j0 (by omega), s22 j j0 (by omega), so2 j j0 (by omega), st2 j j0 (by omega), zero]
      by_cases q1 : j = o <;> by_cases q2 : j = t <;> simp [q1, q2]
    obtain ⟨m1, m2⟩ := mb_or_m (k := 5) (by omega) hm.1 s3
    have key : ∀ j, 0 ≤ j → j < h → (mb_t (b_or m (b_or 0 (b_or (b_shl 1 o) (b_shl 1 t)))) j = 1 ↔ mb_t m j = 1 ∨ mb_t (b_or 0 (b_or (b_shl 1 o) (b_shl 1 t))) j = 1) := by
      intro j j0 j1
      rw [m2 j j0 (by omega)]
      split
      · rename_i q; exact ⟨fun _ => q, fun _ => rfl⟩
      · rename_i q; exact ⟨fun d => absurd d (by omega), fun d => absurd d q⟩
    refine ⟨s3, ⟨m1, fun j j0 j1 d => ?_⟩, key⟩
    have nk : ∀ j, 0 ≤ j → j < h → mb_t m j = 0 → j ≠ o → j ≠ t → mb_t (b_or m (b_or 0 (b_or (b_shl 1 o) (b_shl 1 t)))) j = 0 := by
      intro j j0 j1 d d1 d2
      rcases mb_t_01 (b_or m (b_or 0 (b_or (b_shl 1 o) (b_shl 1 t)))) j with z | z
      · exact z
      · rcases (key j j0 j1).1 z with z | z
        · omega
        · rcases (hb1 j j0 j1).1 z with z | z
          · exact absurd z d1
          · exact absurd z d2
    have nj : ¬ (mb_t m j = 1 ∨ mb_t (b_or 0 (b_or (b_shl 1 o) (b_shl 1 t))) j = 1) := fun q => by have := (key j j0 j1).2 q; omega
    have d0 : mb_t m j = 0 := by rcases mb_t_01 m j with z | z; exact z; exact absurd (Or.inl z) nj
    have d1 : j ≠ o := fun q => nj (Or.inr ((hb1 j j0 j1).2 (Or.inl q)))
    have d2 : j ≠ t := fun q => nj (Or.inr ((hb1 j j0 j1).2 (Or.inr q)))
    obtain ⟨⟨c1, c2⟩, c3, c4⟩ := hm.2 j j0 j1 d0
    obtain ⟨b1, b2, b3, b4⟩ := hb j j0 (by omega)
    obtain ⟨a1, a2, a3, a4⟩ := ha (j + h) (by omega) (by omega)
    refine ⟨⟨c1, nk _ b1 c1 c2 (fun q => ?_) (fun q => ?_)⟩, c3, nk _ (by omega) (by omega) c4 (fun q => ?_) (fun q => ?_)⟩
    · rw [q, e3] at b3; exact d2 (by omega)
    · rw [q, c, e1] at b3; exact d1 b3.symm
    · rw [show a (j + h) = o + h by omega, e2] at a3; exact d2 (by omega)
    · rw [show a (j + h) = t + h by omega, e4] at a3; exact d1 (by omega)
  · have at2 : a (o2 + h) - h = r := by omega
    have er : (mt_rg h a b r).1 = b_or (b_or 0 (b_or (b_shl 1 o) (b_shl 1 t))) (b_or (b_shl 1 o2) (b_shl 1 r)) := by
      unfold mt_rg mt_r1
      rw [e1, at1, if_neg nc, f1, at2]
    obtain ⟨so', so2'⟩ := sh o2 p0 p1
    obtain ⟨st', st2'⟩ := sh r r0 r1
    obtain ⟨s2', s22'⟩ := mb_or_m (k := 5) (by omega) so' st'
    obtain ⟨s3', s32'⟩ := mb_or_m (k := 5) (by omega) s3 s2'
    rw [er]
    have hb1 : ∀ j, 0 ≤ j → j < h → (mb_t (b_or (b_or 0 (b_or (b_shl 1 o) (b_shl 1 t))) (b_or (b_shl 1 o2) (b_shl 1 r))) j = 1 ↔ j = o ∨ j = t ∨ j = o2 ∨ j = r) := by
      intro j j0 j1
      rw [s32' j j0 (by omega), s22' j j0 (by omega), so2' j j0 (by omega), st2' j j0 (by omega), s32 j j0 (by omega), s22 j j0 (by omega), so2 j j0 (by omega), st2 j j0 (by omega), zero]
      by_cases q1 : j = o <;> by_cases q2 : j = t <;> by_cases q3 : j = o2 <;> by_cases q4 : j = r <;> simp [q1, q2, q3, q4]
    obtain ⟨m1, m2⟩ := mb_or_m (k := 5) (by omega) hm.1 s3'
    generalize b_or (b_or 0 (b_or (b_shl 1 o) (b_shl 1 t))) (b_or (b_shl 1 o2) (b_shl 1 r)) = R at hb1 s3' m1 m2
    have key : ∀ j, 0 ≤ j → j < h → (mb_t (b_or m R) j = 1 ↔ mb_t m j = 1 ∨ mb_t R j = 1) := by
      intro j j0 j1
      rw [m2 j j0 (by omega)]
      split
      · rename_i q; exact ⟨fun _ => q, fun _ => rfl⟩
      · rename_i q; exact ⟨fun d => absurd d (by omega), fun d => absurd d q⟩
    refine ⟨s3', ⟨m1, fun j j0 j1 d => ?_⟩, key⟩
    have nk : ∀ j, 0 ≤ j → j < h → mb_t m j = 0 → j ≠ o → j ≠ t → j ≠ o2 → j ≠ r → mb_t (b_or m R) j = 0 := by
      intro j j0 j1 d d1 d2 d3 d4
      rcases mb_t_01 (b_or m R) j with z | z
      · exact z
      · rcases (key j j0 j1).1 z with z | z
        · omega
        · rcases (hb1 j j0 j1).1 z with z | z | z | z
          · exact absurd z d1
          · exact absurd z d2
          · exact absurd z d3
          · exact absurd z d4
    have nj : ¬ (mb_t m j = 1 ∨ mb_t R j = 1) := fun q => by have := (key j j0 j1).2 q; omega
    have d0 : mb_t m j = 0 := by rcases mb_t_01 m j with z | z; exact z; exact absurd (Or.inl z) nj
    have d1 : j ≠ o := fun q => nj (Or.inr ((hb1 j j0 j1).2 (Or.inl q)))
    have d2 : j ≠ t := fun q => nj (Or.inr ((hb1 j j0 j1).2 (Or.inr (Or.inl q))))
    have d3 : j ≠ o2 := fun q => nj (Or.inr ((hb1 j j0 j1).2 (Or.inr (Or.inr (Or.inl q)))))
    have d4 : j ≠ r := fun q => nj (Or.inr ((hb1 j j0 j1).2 (Or.inr (Or.inr (Or.inr q)))))
    obtain ⟨⟨c1, c2⟩, c3, c4⟩ := hm.2 j j0 j1 d0
    obtain ⟨b1, b2, b3, b4⟩ := hb j j0 (by omega)
    obtain ⟨a1, a2, a3, a4⟩ := ha (j + h) (by omega) (by omega)
    refine ⟨⟨c1, nk _ b1 c1 c2 (fun q => ?_) (fun q => ?_) (fun q => ?_) (fun q => ?_)⟩, c3, nk _ (by omega) (by omega) c4 (fun q => ?_) (fun q => ?_) (fun q => ?_) (fun q => ?_)⟩
    · rw [q, e3] at b3; exact d4 (by omega)
    · rw [q, f1] at b3; exact d3 b3.symm
    · rw [q, f3] at b3; exact d2 b3.symm
    · rw [q, e1] at b3; exact d1 b3.symm
    · rw [show a (j + h) = o + h by omega, e2] at a3; exact d2 (by omega)
    · rw [show a (j + h) = t + h by omega, e4] at a3; exact d1 (by omega)
    · rw [show a (j + h) = o2 + h by omega, f2] at a3; exact d4 (by omega)
    · rw [show a (j + h) = r + h by omega, f4] at a3; exact d3 (by omega)
theorem mt_rs_C {h : Int} {a b : Int → Int} (h2 : 0 ≤ h) (h5 : h ≤ 5) (ha : mt_M h a) (hb : mt_M h b) : ∀ n : Nat, (n : Int) ≤ h → mt_C h a b (mt_rs h a b n).1 := by
  intro n
  induction n with
  | zero => intro _; exact mt_mm_C h2 h5 ha hb
  | succ n ih =>
    intro hn
    have i := ih (by omega)
    unfold mt_rs
    by_cases q : mb_t (mt_rs h a b n).1 n = 0
    · rw [if_pos q]; exact (mt_rg_e h5 ha hb i (by omega) (by omega) q).2.1
    · rw [if_neg q]; exact i
/-! the class: a weave with another behind it -/
def mt_wv (h : Int) (σ : ml_St) (k : Int) (v : Int → Int) : Prop := (∀ e, 0 ≤ e → e < 2 * h → σ (k + 1) e = v e ∧ σ (k + 2) e = v (10 + e)) ∧ σ k 2 = v 20 ∧ σ k 3 = v 21 ∧ σ k 4 = v 22 ∧ σ k 5 = v 23 ∧ σ k 6 = v 24 ∧ σ k 7 = v 25
/-- all but the weave k is as it was -/
def mt_fr (k : Int) (σ σ' : ml_St) : Prop := ∀ j, j ≠ k → j ≠ k + 1 → j ≠ k + 2 → σ' j = σ j
theorem mt_fr_up {k i v : Int} {σ : ml_St} : mt_fr k σ (ml_up σ k i v) := fun j h1 _ _ => ml_up_k h1
theorem mt_fr_up1 {k i v : Int} {σ : ml_St} : mt_fr k σ (ml_up σ (k + 1) i v) := fun j _ h1 _ => ml_up_k h1
theorem mt_fr_up2 {k i v : Int} {σ : ml_St} : mt_fr k σ (ml_up σ (k + 2) i v) := fun j _ _ h1 => ml_up_k h1
theorem mt_fr_t {k : Int} {σ σ1 σ2 : ml_St} (a : mt_fr k σ σ1) (b : mt_fr k σ1 σ2) : mt_fr k σ σ2 := fun j h1 h2 h3 => by rw [b j h1 h2 h3, a j h1 h2 h3]
theorem mt_fr_r {k : Int} {σ : ml_St} : mt_fr k σ σ := fun _ _ _ _ => rfl
theorem mt_wv_fr {h k th : Int} {σ σ' : ml_St} {v : Int → Int} (f : mt_fr th σ σ') (d : th + 3 ≤ k ∨ k + 3 ≤ th) (w : mt_wv h σ k v) : mt_wv h σ' k v := by
  unfold mt_wv
  rw [f k (by omega) (by omega) (by omega), f (k + 1) (by omega) (by omega) (by omega), f (k + 2) (by omega) (by omega) (by omega)]
  exact w
theorem s_addLoop {Q : Int → ml_St → Prop} {th p2 p3 h r m : Int} {σ : ml_St} {a b : Int → Int} (h2 : 2 ≤ h) (h5 : h ≤ 5) (ha : mt_M h a) (hb : mt_M h b) (wa : mt_wv h σ p2 a) (wb : mt_wv h σ p3 b) (hm : mt_C h a b m) (r0 : 0 ≤ r) (r1 : r < h) (hr : mb_t m r = 0)
    (q : I32 (mt_rg h a b r).1 → Q (mt_rg h a b r).1 (ml_up (ml_up (ml_up σ th 2 (w64 (σ th 2 + 1))) th 3 (max (σ th 3) (mt_rg h a b r).2.1)) th 4 (w64 (σ th 4 + (mt_rg h a b r).2.1)))) : f_X9_addLoop σ th p2 p3 r h Q := by
  obtain ⟨o, t, e1, e2, o0, o1, t0, t1, n1, n2, e3, e4, z1, z2, c⟩ := mt_rg_C h5 ha hb hm r0 r1 hr
  have at1 : a (o + h) - h = t := by omega
  obtain ⟨so, so2⟩ := mb_shl_m (k := 5) (by omega) o0 (by omega)
  obtain ⟨st, st2⟩ := mb_shl_m (k := 5) (by omega) t0 (by omega)
  obtain ⟨s2, s22⟩ := mb_or_m (k := 5) (by omega) so st
  obtain ⟨s3, s32⟩ := mb_or_m (k := 5) (a := 0) (by omega) ⟨by omega, by omega⟩ s2
  have hI : ∀ x : Int, 0 ≤ x → x < 100 → I32 x := fun x _ _ => ⟨by omega, by omega⟩
  have rd : ∀ x o t : Int, 0 ≤ x → x < h → b x = o → a (o + h) = t + h → 0 ≤ o → o < h → 0 ≤ t → t < h → σ (p3 + 1) x = o ∧ σ (p3 + 2) x = b (10 + x) ∧ σ (p2 + 1) (o + h) = t + h ∧ σ (p2 + 2) (o + h) = a (10 + (o + h)) ∧ Int.tmod o h = o ∧ Int.tmod (t + h) h = t := by
    intro x o t x0 x1 f1 f2 p0 p1 q0 q1
    have g := wb.1 x x0 (by omega)
    have g2 := wa.1 (o + h) (by omega) (by omega)
    refine ⟨by rw [g.1, f1], g.2, by rw [g2.1, f2], g2.2, Int.tmod_eq_of_lt p0 p1, ?_⟩
    rw [Int.tmod_eq_emod_of_nonneg (by omega), Int.add_emod_right, Int.emod_eq_of_lt q0 q1]
  have fin : ∀ m s, mt_rg h a b r = (m, s, r) → f_X9_addLoop_u98 Q th p2 p3 σ m s := by
    intro m s em
    unfold f_X9_addLoop_u98
    have q := q (by
      have := (mt_rg_e h5 ha hb hm r0 r1 hr).1
      exact ⟨by have := this.1; omega, by have := this.2; omega⟩)
    rw [em] at q
    intro _ σ3 f3 _ σ5 f5 _ σ8 f8
    subst f3; rw [ml_up_i (by omega)] at f5; subst f5; rw [ml_up_i (by omega), ml_up_i (by omega)] at f8; subst f8
    exact q
  -- one step of the loop
  have one : ∀ (N : Nat) (x o t s m x9 : Int), 0 ≤ x → x < h → b x = o → a (o + h) = t + h → 0 ≤ o → o < h → 0 ≤ t → t < h → mb_t m r = 0 → 0 ≤ x9 → x9 ≤ 10 →
      f_X9_addLoop_u12 Q (f_X9_addLoop_u98 Q th p2 p3) th p2 p3 N σ r h (mt_r1 h a b m s x).1 t (mt_r1 h a b m s x).2.1 (x9 + 1) → f_X9_addLoop_u12 Q (f_X9_addLoop_u98 Q th p2 p3) th p2 p3 (N + 1) σ r h m x s x9 := by
    intro N x o t s m x9 x0 x1 f1 f2 p0 p1 q0 q1 hmr h9 h91 k
    obtain ⟨g1, g2, g3, g4, g5, g6⟩ := rd x o t x0 x1 f1 f2 p0 p1 q0 q1
    unfold f_X9_addLoop_u12
    have hmr : b_and (b_shr m r) 1 = 0 := hmr
    refine ⟨fun c => absurd hmr c, fun _ => ⟨fun c => absurd c (by omega), fun _ => ⟨x0, by omega, fun _ => ?_⟩⟩⟩
    rw [g1, g2, g5]
    refine ⟨by omega, hI _ p0 (by omega), fun y5 f5 => ?_⟩
    subst f5
    rw [g3, g4, g6]
    refine ⟨x0, by omega, fun _ => ⟨hI _ (by omega) (by omega), by omega, by omega, fun _ y11 f11 => ⟨hI _ (by omega) (by omega), by omega, by omega, fun _ => ⟨by omega, hI _ q0 (by omega), fun y15 f15 y16 f16 => ⟨hI _ (by omega) (by omega), fun y17 f17 => ?_⟩⟩⟩⟩⟩
    subst f11; subst f15; subst f16; subst f17
    unfold mt_r1 at k
    rw [f1, show a (y5 + h) - h = y15 by omega] at k
    exact k
  have e15 : (mt_r1 h a b 0 0 r).1 = b_or 0 (b_or (b_shl 1 o) (b_shl 1 t)) := by unfold mt_r1; rw [e1, at1]
  have e17 : (mt_r1 h a b 0 0 r).2.2 = t := by unfold mt_r1; rw [e1, at1]
  unfold f_X9_addLoop f_X9_addLoop_u0
  refine ⟨3, one 2 r o t 0 0 0 r0 r1 e1 e2 o0 o1 t0 t1 (mb_0 r) (by omega) (by omega) ?_⟩
  have bit1 : mb_t (mt_r1 h a b 0 0 r).1 r = if r = t then 1 else 0 := by
    rw [e15, s32 r r0 (by omega), s22 r r0 (by omega), so2 r r0 (by omega), st2 r r0 (by omega), mb_0]
    rw [if_neg (Ne.symm n1)]
    by_cases z : r = t <;> simp [z]
  rcases c with c | ⟨nc, o2, f1, f2, p0, p1, k1, k2, k3, f3, f4, y1⟩
  · rw [if_pos c.symm] at bit1
    have er : mt_rg h a b r = mt_r1 h a b 0 0 r := by unfold mt_rg; rw [if_pos (by rw [e17, c])]
    unfold f_X9_addLoop_u12
    refine ⟨fun _ => fin _ _ ?_, fun d => ?_⟩
    · rw [er]
      conv => lhs; rw [show mt_r1 h a b 0 0 r = ((mt_r1 h a b 0 0 r).1, (mt_r1 h a b 0 0 r).2.1, (mt_r1 h a b 0 0 r).2.2) from rfl]
      rw [e17, c]
    · have bit1 : b_and (b_shr (mt_r1 h a b 0 0 r).1 r) 1 = 1 := bit1
      omega
  · rw [if_neg (fun d => nc d.symm)] at bit1
    have er : mt_rg h a b r = mt_r1 h a b (mt_r1 h a b 0 0 r).1 (mt_r1 h a b 0 0 r).2.1 t := by unfold mt_rg; rw [e17, if_neg nc]
    have e27 : (mt_rg h a b r).2.2 = r := by rw [er]; show a (b t + h) - h = r; rw [f1]; omega
    refine one 1 t o2 r _ _ 1 t0 t1 f1 f2 p0 p1 r0 r1 bit1 (by omega) (by omega) ?_
    rw [← er]
    have bit2 : b_and (b_shr (mt_rg h a b r).1 r) 1 = 1 := by
      have g := (mt_rg_e h5 ha hb hm r0 r1 hr)
      have e28 : (mt_rg h a b r).1 = b_or (mt_r1 h a b 0 0 r).1 (b_or (b_shl 1 o2) (b_shl 1 r)) := by
        rw [er]
        conv => lhs; unfold mt_r1
        rw [f1, show a (o2 + h) - h = r by omega]
        rfl
      obtain ⟨so', so2'⟩ := mb_shl_m (k := 5) (by omega) p0 (by omega)
      obtain ⟨st', st2'⟩ := mb_shl_m (k := 5) (by omega) r0 (by omega)
      obtain ⟨s2', s22'⟩ := mb_or_m (k := 5) (by omega) so' st'
      rw [← e15] at s3
      obtain ⟨s3', s32'⟩ := mb_or_m (k := 5) (by omega) s3 s2'
      have : mb_t (mt_rg h a b r).1 r = 1 := by
        rw [e28, s32' r r0 (by omega), s22' r r0 (by omega), st2' r r0 (by omega)]
        simp
      exact this
    unfold f_X9_addLoop_u12
    refine ⟨fun _ => fin _ _ ?_, fun d => by omega⟩
    conv => lhs; rw [show mt_rg h a b r = ((mt_rg h a b r).1, (mt_rg h a b r).2.1, (mt_rg h a b r).2.2) from rfl]
    rw [e27]
