/-! every thread from an outer end comes out, within 2 h crossings -/
def mt_it (h : Int) (a b : Int → Int) (s : Int) : Nat → Int
  | 0 => s
  | n + 1 => mt_J h (mt_P h a b (mt_it h a b s n))
theorem mt_W_len {h : Int} {a b : Int → Int} (ha : mt_M h a) (hb : mt_M h b) {n : Nat} {w : Nat → Int} {s : Int} (hs : mt_all h s) (ho : ¬ mt_in h s) (h0 : w 0 = s) (hw : ∀ i, i < n → mt_in h (mt_P h a b (w i)) ∧ w (i + 1) = mt_J h (mt_P h a b (w i))) : (n : Int) ≤ 2 * h := by
  have hh : 0 ≤ h := by have := hs.1; have := hs.2; omega
  have hA : ∀ i, i ≤ n → mt_all h (w i) := by
    intro i
    induction i with
    | zero => intro _; rw [h0]; exact hs
    | succ i ih => intro hi; rw [(hw i (by omega)).2]; exact mt_in_all (mt_J_inv (hw i (by omega)).1).1
  have hdis := mt_walk (g := fun x => mt_J h (mt_P h a b x)) (s := s) (I := fun x => mt_all h x ∧ mt_in h (mt_P h a b x)) n w h0 (fun i hi => (hw i hi).2) (fun i hi => ⟨hA i (by omega), (hw i hi).1⟩)
    (fun x y hx hy e => by
      have e : mt_J h (mt_P h a b x) = mt_J h (mt_P h a b y) := e
      have e1 : mt_P h a b x = mt_P h a b y := by rw [← (mt_J_inv hx.2).2.1, ← (mt_J_inv hy.2).2.1, e]
      rw [← (mt_P_inv ha hb hx.1).2.1, ← (mt_P_inv ha hb hy.1).2.1, e1])
    (fun x hx e => by
      have e : mt_J h (mt_P h a b x) = s := e
      exact ho (e ▸ (mt_J_inv hx.2).1))
  rcases Int.lt_or_le (2 * h) n with q | q
  · obtain ⟨i, j, hij, hj, e⟩ := mt_ph (2 * h).toNat (fun i => w (i + 1) - h) (fun i hi => by
      have hi2 : i < n := by omega
      have g : mt_in h (w (i + 1)) := by rw [(hw i hi2).2]; exact (mt_J_inv (hw i hi2).1).1
      obtain ⟨g1, g2⟩ := g
      show 0 ≤ w (i + 1) - h ∧ w (i + 1) - h < ((2 * h).toNat : Nat)
      constructor <;> omega)
    have e : w (i + 1) - h = w (j + 1) - h := e
    exact absurd (show w (i + 1) = w (j + 1) by omega) (hdis (i + 1) (j + 1) (by omega) (by omega))
  · exact q
theorem mt_exist {h : Int} {a b : Int → Int} (ha : mt_M h a) (hb : mt_M h b) {s : Int} (hs : mt_all h s) (ho : ¬ mt_in h s) : ∃ (n : Nat) (x : Int), mt_W h a b n (mt_it h a b s) s x ∧ (n : Int) ≤ 2 * h ∧ mt_all h x := by
  have hh : 0 ≤ h := by have := hs.1; have := hs.2; omega
  have step : ∀ k : Nat, (∀ i, i < k → mt_in h (mt_P h a b (mt_it h a b s i))) ∨ ∃ n, n < k ∧ (∀ i, i < n → mt_in h (mt_P h a b (mt_it h a b s i))) ∧ ¬ mt_in h (mt_P h a b (mt_it h a b s n)) := by
    intro k
    induction k with
    | zero => exact Or.inl (fun i hi => absurd hi (by omega))
    | succ k ih =>
      rcases ih with q | ⟨n, h1, h2, h3⟩
      · by_cases c : mt_in h (mt_P h a b (mt_it h a b s k))
        · refine Or.inl (fun i hi => ?_)
          rcases Nat.lt_or_ge i k with z | z
          · exact q i z
          · have : i = k := by omega
            subst this; exact c
        · exact Or.inr ⟨k, by omega, q, c⟩
      · exact Or.inr ⟨n, by omega, h2, h3⟩
  rcases step ((2 * h).toNat + 1) with q | ⟨n, h1, h2, h3⟩
  · have := mt_W_len ha hb (n := (2 * h).toNat + 1) hs ho (w := mt_it h a b s) rfl (fun i hi => ⟨q i hi, rfl⟩)
    omega
  · have hw : mt_W h a b n (mt_it h a b s) s (mt_P h a b (mt_it h a b s n)) := ⟨rfl, fun i hi => ⟨h2 i hi, rfl⟩, rfl, h3⟩
    exact ⟨n, _, hw, by omega, (mt_P_inv ha hb (mt_W_all ha hb hs hw n (Nat.le_refl n))).1⟩
