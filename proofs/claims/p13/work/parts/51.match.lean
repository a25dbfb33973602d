/-! MATCHINGS of the 2 h ends, and threads through a with b behind it: A's end e is e, B's end e is 2 h + e -/
def mt_M (h : Int) (f : Int → Int) : Prop := ∀ e, 0 ≤ e → e < 2 * h → 0 ≤ f e ∧ f e < 2 * h ∧ f (f e) = e ∧ f e ≠ e
def mt_P (h : Int) (a b : Int → Int) (x : Int) : Int := if x < 2 * h then a x else 2 * h + b (x - 2 * h)
def mt_J (h x : Int) : Int := if x < 2 * h then x + h else x - h
def mt_in (h x : Int) : Prop := h ≤ x ∧ x < 3 * h
def mt_all (h x : Int) : Prop := 0 ≤ x ∧ x < 4 * h
theorem mt_P_inv {h : Int} {a b : Int → Int} (ha : mt_M h a) (hb : mt_M h b) {x : Int} (hx : mt_all h x) : mt_all h (mt_P h a b x) ∧ mt_P h a b (mt_P h a b x) = x ∧ mt_P h a b x ≠ x := by
  obtain ⟨h1, h2⟩ := hx
  by_cases q : x < 2 * h
  · obtain ⟨g1, g2, g3, g4⟩ := ha x h1 q
    have e : mt_P h a b x = a x := by unfold mt_P; rw [if_pos q]
    have e2 : mt_P h a b (a x) = x := by unfold mt_P; rw [if_pos g2, g3]
    rw [e, e2]
    exact ⟨⟨g1, by omega⟩, rfl, g4⟩
  · obtain ⟨g1, g2, g3, g4⟩ := hb (x - 2 * h) (by omega) (by omega)
    have e : mt_P h a b x = 2 * h + b (x - 2 * h) := by unfold mt_P; rw [if_neg q]
    have e2 : mt_P h a b (2 * h + b (x - 2 * h)) = x := by
      unfold mt_P
      rw [if_neg (by omega), show 2 * h + b (x - 2 * h) - 2 * h = b (x - 2 * h) by omega, g3]
      omega
    rw [e, e2]
    exact ⟨⟨by omega, by omega⟩, rfl, by omega⟩
theorem mt_J_inv {h x : Int} (hx : mt_in h x) : mt_in h (mt_J h x) ∧ mt_J h (mt_J h x) = x ∧ mt_J h x ≠ x := by
  obtain ⟨h1, h2⟩ := hx
  unfold mt_in mt_J
  by_cases q : x < 2 * h
  · rw [if_pos q, if_neg (by omega)]
    exact ⟨⟨by omega, by omega⟩, by omega, by omega⟩
  · rw [if_neg q, if_pos (by omega)]
    exact ⟨⟨by omega, by omega⟩, by omega, by omega⟩
theorem mt_in_all {h x : Int} (hx : mt_in h x) : mt_all h x := by obtain ⟨h1, h2⟩ := hx; exact ⟨by omega, by omega⟩
/-- a walk of n steps from s, then out at x -/
def mt_W (h : Int) (a b : Int → Int) (n : Nat) (w : Nat → Int) (s x : Int) : Prop := w 0 = s ∧ (∀ i, i < n → mt_in h (mt_P h a b (w i)) ∧ w (i + 1) = mt_J h (mt_P h a b (w i))) ∧ x = mt_P h a b (w n) ∧ ¬ mt_in h x
def mt_T (h : Int) (a b : Int → Int) (s x : Int) : Prop := ∃ n w, mt_W h a b n w s x
theorem mt_W_all {h : Int} {a b : Int → Int} (ha : mt_M h a) (hb : mt_M h b) {n : Nat} {w : Nat → Int} {s x : Int} (hs : mt_all h s) (hw : mt_W h a b n w s x) : ∀ i, i ≤ n → mt_all h (w i) := by
  intro i
  induction i with
  | zero => intro _; rw [hw.1]; exact hs
  | succ i ih =>
    intro hi
    obtain ⟨g1, g2⟩ := hw.2.1 i (by omega)
    rw [g2]
    exact mt_in_all (mt_J_inv g1).1
theorem mt_W_det {h : Int} {a b : Int → Int} {n n' : Nat} {w w' : Nat → Int} {s x x' : Int} (hw : mt_W h a b n w s x) (hw' : mt_W h a b n' w' s x') : n = n' ∧ x = x' ∧ ∀ i, i ≤ n → w i = w' i := by
  have key : ∀ i, i ≤ n → i ≤ n' → w i = w' i := by
    intro i
    induction i with
    | zero => intro _ _; rw [hw.1, hw'.1]
    | succ i ih => intro h1 h2; rw [(hw.2.1 i (by omega)).2, (hw'.2.1 i (by omega)).2, ih (by omega) (by omega)]
  have hn : n = n' := by
    rcases Nat.lt_trichotomy n n' with q | q | q
    · have := (hw'.2.1 n q).1
      rw [← key n (by omega) (by omega), ← hw.2.2.1] at this
      exact absurd this hw.2.2.2
    · exact q
    · have := (hw.2.1 n' q).1
      rw [key n' (by omega) (by omega), ← hw'.2.2.1] at this
      exact absurd this hw'.2.2.2
  subst hn
  exact ⟨rfl, by rw [hw.2.2.1, hw'.2.2.1, key n (by omega) (by omega)], fun i hi => key i hi hi⟩
theorem mt_W_rev {h : Int} {a b : Int → Int} (ha : mt_M h a) (hb : mt_M h b) {n : Nat} {w : Nat → Int} {s x : Int} (hs : mt_all h s) (ho : ¬ mt_in h s) (hw : mt_W h a b n w s x) : mt_W h a b n (fun i => mt_P h a b (w (n - i))) x s := by
  have hA := mt_W_all ha hb hs hw
  refine ⟨hw.2.2.1.symm, fun i hi => ?_, ?_, ho⟩
  · obtain ⟨k, hk⟩ : ∃ k, n - i = k + 1 := ⟨n - i - 1, by omega⟩
    have e1 : mt_P h a b (mt_P h a b (w (n - i))) = w (n - i) := (mt_P_inv ha hb (hA (n - i) (by omega))).2.1
    obtain ⟨g1, g2⟩ := hw.2.1 k (by omega)
    have g3 := mt_J_inv g1
    show mt_in h (mt_P h a b (mt_P h a b (w (n - i)))) ∧ mt_P h a b (w (n - (i + 1))) = mt_J h (mt_P h a b (mt_P h a b (w (n - i))))
    rw [e1, hk, g2, show n - (i + 1) = k by omega]
    exact ⟨g3.1, g3.2.1.symm⟩
  · show s = mt_P h a b (mt_P h a b (w (n - n)))
    rw [Nat.sub_self, hw.1]
    exact (mt_P_inv ha hb hs).2.1.symm
theorem mt_W_ne {h : Int} {a b : Int → Int} (ha : mt_M h a) (hb : mt_M h b) {n : Nat} {w : Nat → Int} {s x : Int} (hs : mt_all h s) (ho : ¬ mt_in h s) (hw : mt_W h a b n w s x) : x ≠ s := by
  intro e
  subst e
  have hA := mt_W_all ha hb hs hw
  have hr := (mt_W_det hw (mt_W_rev ha hb hs ho hw)).2.2
  rcases Nat.mod_two_eq_zero_or_one n with q | q
  · obtain ⟨k, hk⟩ : ∃ k, n = k + k := ⟨n / 2, by omega⟩
    have := hr k (by omega)
    have this : w k = mt_P h a b (w (n - k)) := this
    rw [show n - k = k by omega] at this
    exact (mt_P_inv ha hb (hA k (by omega))).2.2 this.symm
  · obtain ⟨k, hk⟩ : ∃ k, n = k + k + 1 := ⟨n / 2, by omega⟩
    have := hr (k + 1) (by omega)
    have this : w (k + 1) = mt_P h a b (w (n - (k + 1))) := this
    obtain ⟨g1, g2⟩ := hw.2.1 k (by omega)
    rw [show n - (k + 1) = k by omega, g2] at this
    exact (mt_J_inv g1).2.2 this
