/-! a word written out: its signs in a row -/
def mt_wre (s P : Int) (E : Int → Int) (j : Int) : Int := if j < s then E j else E (s + (j - s) % (P - s))
def mt_wra (P : Int) (E e : Int → Int) (j : Int) : Int := if j < P then E j else e (j - P)
def mt_wsg (t : Int → Int) (i : Int) : Int := 2 * (t (i + 1) - 48) + (if t i = 117 then 1 else 0)
def mt_wr (t : Int → Int) (n : Int) (cx : Int → Int) (ex : Int → Int → Int) : Nat → Int → Int → (Int → Int) → Int → (Int → Int) → (Int → Int)
  | 0, _, _, _, _, E => E
  | F + 1, i, d, U, P, E =>
    if n ≤ i then E
    else if t i = 40 then mt_wr t n cx ex F (i + 1) (d + 1) (mt_st U (d + 1) P) P E
    else if t i = 41 then mt_wr t n cx ex F (mt_tn t n (i + 1)) (d - 1) U (U d + mt_tm t n (i + 1) * (P - U d)) (mt_wre (U d) P E)
    else if t i = 120 ∨ t i = 117 then mt_wr t n cx ex F (mt_tn t n (i + 2)) d U (P + mt_tm t n (i + 2) * 1) (mt_wre P (P + 1) (mt_wra P E (fun _ => mt_wsg t i)))
    else mt_wr t n cx ex F (mt_tn t n (i + 1)) d U (P + mt_tm t n (i + 1) * cx (t i - 65)) (mt_wre P (P + cx (t i - 65)) (mt_wra P E (ex (t i - 65))))
def mt_wrw (t : Int → Int) (n : Int) (cx : Int → Int) (ex : Int → Int → Int) : Int → Int := mt_wr t n cx ex (n.toNat + 1) 0 0 (fun _ => 0) 0 (fun _ => 0)
theorem mt_wr_t {n h w : Int} {t t' cx cx' : Int → Int} {ex ex' : Int → Int → Int} (n0 : 0 ≤ n) (e : mt_teq n t t') (em : ∀ v, 0 ≤ v → v < w → cx v = cx' v ∧ ex v = ex' v) : ∀ (F : Nat) (i d need : Int) (U : Int → Int) (P : Int) (E : Int → Int), 0 ≤ i → i ≤ n → mt_gr t n h w F i d need = 0 → mt_wr t n cx ex F i d U P E = mt_wr t' n cx' ex' F i d U P E := by
  intro F
  induction F with
  | zero => intro i d need U P E _ _ _; rfl
  | succ F ih =>
    intro i d need U P E i0 i1 g
    unfold mt_wr
    by_cases c : n ≤ i
    · rw [if_pos c, if_pos c]
    have ti : t i = t' i := e i i0 (by omega)
    rw [if_neg c, if_neg c, ← ti, ← mt_tm_c e (show 0 ≤ i + 1 by omega), ← mt_tm_c e (show 0 ≤ i + 2 by omega), ← mt_tn_c e (show 0 ≤ i + 1 by omega), ← mt_tn_c e (show 0 ≤ i + 2 by omega)]
    rcases mt_gr_c n0 i0 g with z | z | z | z | z
    · omega
    · rw [if_pos z.2.1, if_pos z.2.1]; exact ih _ _ 1 _ _ _ (by omega) (by omega) z.2.2.2
    · obtain ⟨z1, z2, z3, z4, z5, z6⟩ := z
      have r := mt_tn_r (t := t) (n := n) (i := i + 1) (by omega)
      rw [if_neg (show ¬ t i = 40 by omega), if_neg (show ¬ t i = 40 by omega), if_pos z2, if_pos z2]; exact ih _ _ 0 _ _ _ (by omega) r.2 z6
    · obtain ⟨z1, z2, z3, z4, z5, z6, z7, z8⟩ := z
      have r := mt_tn_r (t := t) (n := n) (i := i + 2) (by omega)
      have es : mt_wsg t' i = mt_wsg t i := by unfold mt_wsg; rw [← ti, ← e (i + 1) (by omega) z3]
      rw [if_neg (show ¬ t i = 40 by omega), if_neg (show ¬ t i = 40 by omega), if_neg (show ¬ t i = 41 by omega), if_neg (show ¬ t i = 41 by omega), if_pos z2, if_pos z2, es]; exact ih _ _ 0 _ _ _ (by omega) r.2 z8
    · obtain ⟨z1, z2, z3, z4, z5, z6⟩ := z
      have r := mt_tn_r (t := t) (n := n) (i := i + 1) (by omega)
      obtain ⟨m1, m2⟩ := em (t i - 65) (by omega) z4
      rw [if_neg (show ¬ t i = 40 by omega), if_neg (show ¬ t i = 40 by omega), if_neg (show ¬ t i = 41 by omega), if_neg (show ¬ t i = 41 by omega), if_neg (show ¬ (t i = 120 ∨ t i = 117) by omega), if_neg (show ¬ (t i = 120 ∨ t i = 117) by omega), m1, m2]; exact ih _ _ 0 _ _ _ (by omega) r.2 z6
def mt_exf (T : Int → Int → Int) (sz : Int → Int) : Nat → (Int → Int → Int)
  | 0 => fun _ _ => 0
  | w + 1 => mt_set (mt_exf T sz w) w (mt_wrw (T w) (sz w) (mt_cf mt_one T sz w) (mt_exf T sz w))
def mt_ex (T : Int → Int → Int) (sz : Int → Int) : Int → Int → Int := mt_exf T sz 16
theorem mt_exf_lo {T : Int → Int → Int} {sz : Int → Int} : ∀ (a b : Nat) (v : Int), v < a → a ≤ b → mt_exf T sz b v = mt_exf T sz a v := by
  intro a b
  induction b with
  | zero => intro v hv ha; have : a = 0 := by omega
            subst this; rfl
  | succ b ih =>
    intro v hv ha
    by_cases c : a = b + 1
    · subst c; rfl
    · rw [← ih v hv (by omega)]
      show mt_set (mt_exf T sz b) b _ v = _
      unfold mt_set; rw [if_neg (by omega)]
theorem mt_ex_e {h : Int} {T : Int → Int → Int} {sz : Int → Int} {w : Nat} (hw : w < 16) (g : mt_good h w (T w) (sz w)) : mt_ex T sz w = mt_wrw (T w) (sz w) (mt_cn mt_one T sz) (mt_ex T sz) := by
  unfold mt_ex mt_cn
  rw [mt_exf_lo (w + 1) 16 w (by omega) (by omega)]
  show mt_set (mt_exf T sz w) w (mt_wrw (T w) (sz w) (mt_cf mt_one T sz w) (mt_exf T sz w)) w = _
  unfold mt_set
  rw [if_pos rfl]
  exact mt_wr_t (h := h) (w := w) (by have := g.1; omega) (fun _ _ _ => rfl) (fun v v0 v1 => ⟨(mt_cf_lo w 16 v v1 (by omega)).symm, (mt_exf_lo w 16 v v1 (by omega)).symm⟩) _ _ _ 1 _ _ _ (Int.le_refl 0) (by have := g.1; omega) g.2.2.2
theorem mt_cf_c {sg : Int → Int} {T T' : Int → Int → Int} {sz sz' : Int → Int} : ∀ (n : Nat), (∀ v : Nat, v < n → T v = T' v ∧ sz v = sz' v) → mt_cf sg T sz n = mt_cf sg T' sz' n := by
  intro n
  induction n with
  | zero => intro _; rfl
  | succ n ih => intro e; unfold mt_cf; rw [ih (fun v hv => e v (by omega)), (e n (by omega)).1, (e n (by omega)).2]
theorem mt_exf_c {T T' : Int → Int → Int} {sz sz' : Int → Int} : ∀ (n : Nat), (∀ v : Nat, v < n → T v = T' v ∧ sz v = sz' v) → mt_exf T sz n = mt_exf T' sz' n := by
  intro n
  induction n with
  | zero => intro _; rfl
  | succ n ih => intro e; unfold mt_exf; rw [ih (fun v hv => e v (by omega)), mt_cf_c n (fun v hv => e v (by omega)), (e n (by omega)).1, (e n (by omega)).2]
theorem mt_ex_c {T T' : Int → Int → Int} {sz sz' : Int → Int} {w : Nat} (hw : w < 16) (e : ∀ v : Nat, v ≤ w → T v = T' v ∧ sz v = sz' v) : mt_ex T sz w = mt_ex T' sz' w ∧ mt_cn mt_one T sz w = mt_cn mt_one T' sz' w := by
  unfold mt_ex mt_cn
  rw [mt_exf_lo (w + 1) 16 w (by omega) (by omega), mt_exf_lo (w + 1) 16 w (by omega) (by omega), mt_exf_c (w + 1) (fun v hv => e v (by omega)), mt_cf_lo (w + 1) 16 w (by omega) (by omega), mt_cf_lo (w + 1) 16 w (by omega) (by omega), mt_cf_c (w + 1) (fun v hv => e v (by omega))]
  exact ⟨rfl, rfl⟩
