/-! the words of a lane: their TEXTS, what they make, how many signs (pure) -/
def mt_teq (n : Int) (t t' : Int → Int) : Prop := ∀ j, 0 ≤ j → j < n → t j = t' j
theorem mt_c_c {n i : Int} {t t' : Int → Int} (e : mt_teq n t t') (i0 : 0 ≤ i) : mt_c t n i = mt_c t' n i := by
  unfold mt_c; split
  · exact e i i0 (by omega)
  · rfl
theorem mt_ds_c {n : Int} {t t' : Int → Int} (e : mt_teq n t t') : ∀ (F : Nat) (i : Int), 0 ≤ i → mt_ds t n F i = mt_ds t' n F i := by
  intro F
  induction F with
  | zero => intro i _; rfl
  | succ F ih => intro i i0; rw [mt_ds_s, mt_ds_s, mt_c_c e i0, ih (i + 1) (by omega)]
theorem mt_s42_c {n i : Int} {t t' : Int → Int} (e : mt_teq n t t') (i0 : 0 ≤ i) : (i < n ∧ t i = 42) ↔ (i < n ∧ t' i = 42) := by
  constructor
  · rintro ⟨a, b⟩; exact ⟨a, by rw [← e i i0 a]; exact b⟩
  · rintro ⟨a, b⟩; exact ⟨a, by rw [e i i0 a]; exact b⟩
theorem mt_tf_c {n i : Int} {t t' : Int → Int} (e : mt_teq n t t') (i0 : 0 ≤ i) : mt_tf t n i = mt_tf t' n i := by
  have d := mt_ds_c e 9 (i + 1) (by omega)
  have r := (mt_ds_r (t := t') (n := n) 9 (i + 1)).1
  unfold mt_tf
  rw [d, mt_c_c e (by omega)]
  by_cases s : i < n ∧ t i = 42
  · rw [if_pos s, if_pos ((mt_s42_c e i0).1 s)]
  · rw [if_neg s, if_neg (fun q => s ((mt_s42_c e i0).2 q))]
theorem mt_tn_c {n i : Int} {t t' : Int → Int} (e : mt_teq n t t') (i0 : 0 ≤ i) : mt_tn t n i = mt_tn t' n i := by
  have d := mt_ds_c e 9 (i + 1) (by omega)
  unfold mt_tn
  rw [d]
  by_cases s : i < n ∧ t i = 42
  · rw [if_pos s, if_pos ((mt_s42_c e i0).1 s)]
  · rw [if_neg s, if_neg (fun q => s ((mt_s42_c e i0).2 q))]
theorem mt_vl_c {t t' : Int → Int} {j : Int} : ∀ m : Nat, (∀ k : Nat, k < m → t (j + k) = t' (j + k)) → mt_vl t j m = mt_vl t' j m := by
  intro m
  induction m with
  | zero => intro _; rfl
  | succ m ih => intro h; unfold mt_vl; rw [ih (fun k hk => h k (by omega)), h m (by omega)]
theorem mt_tm_c {n i : Int} {t t' : Int → Int} (e : mt_teq n t t') (i0 : 0 ≤ i) : mt_tm t n i = mt_tm t' n i := by
  have d := mt_ds_c e 9 (i + 1) (by omega)
  have r := (mt_ds_r (t := t') (n := n) 9 (i + 1)).1
  have dd := mt_ds_d (t := t') (n := n) 9 (i + 1)
  unfold mt_tm
  rw [d]
  by_cases s : i < n ∧ t i = 42
  · rw [if_pos s, if_pos ((mt_s42_c e i0).1 s)]
    exact mt_vl_c _ (fun k hk => e _ (by omega) (dd k (by omega)).1)
  · rw [if_neg s, if_neg (fun q => s ((mt_s42_c e i0).2 q))]
theorem mt_gr_t {n h w : Int} {t t' : Int → Int} (e : mt_teq n t t') : ∀ (F : Nat) (i d need : Int), 0 ≤ i → mt_gr t n h w F i d need = mt_gr t' n h w F i d need := by
  intro F
  induction F with
  | zero => intro i d need _; rfl
  | succ F ih =>
    intro i d need i0
    unfold mt_gr
    by_cases c : n ≤ i
    · rw [if_pos c, if_pos c]
    · have ti : t i = t' i := e i i0 (by omega)
      have r1 : 0 ≤ mt_tn t' n (i + 1) := by
        have := (mt_ds_r (t := t') (n := n) 9 (i + 1 + 1)).1
        unfold mt_tn; split <;> omega
      have r2 : 0 ≤ mt_tn t' n (i + 2) := by
        have := (mt_ds_r (t := t') (n := n) 9 (i + 2 + 1)).1
        unfold mt_tn; split <;> omega
      rw [if_neg c, if_neg c, ti, mt_c_c e (show 0 ≤ i + 1 by omega), mt_tf_c e (show 0 ≤ i + 1 by omega), mt_tf_c e (show 0 ≤ i + 2 by omega), mt_tn_c e (show 0 ≤ i + 1 by omega), mt_tn_c e (show 0 ≤ i + 2 by omega), ih (i + 1) _ _ (by omega), ih _ (d - 1) 0 r1, ih _ d 0 r1, ih _ d 0 r2]
theorem mt_we_t {n h w : Int} {t t' : Int → Int} {mk mk' : Int → Int → Int} (n0 : 0 ≤ n) (e : mt_teq n t t') (em : ∀ v, 0 ≤ v → v < w → mk v = mk' v) : ∀ (F : Nat) (i d need : Int) (S : Int → Int → Int), 0 ≤ i → i ≤ n → mt_gr t n h w F i d need = 0 → mt_we t n h mk F i d S = mt_we t' n h mk' F i d S := by
  intro F
  induction F with
  | zero => intro i d need S _ _ _; rfl
  | succ F ih =>
    intro i d need S i0 i1 g
    unfold mt_we
    by_cases c : n ≤ i
    · rw [if_pos c, if_pos c]
    have ti : t i = t' i := e i i0 (by omega)
    rw [if_neg c, if_neg c, ← ti, ← mt_tm_c e (show 0 ≤ i + 1 by omega), ← mt_tm_c e (show 0 ≤ i + 2 by omega), ← mt_tn_c e (show 0 ≤ i + 1 by omega), ← mt_tn_c e (show 0 ≤ i + 2 by omega)]
    rcases mt_gr_c n0 i0 g with z | z | z | z | z
    · omega
    · rw [if_pos z.2.1, if_pos z.2.1]; exact ih _ _ 1 _ (by omega) (by omega) z.2.2.2
    · obtain ⟨z1, z2, z3, z4, z5, z6⟩ := z
      have r := mt_tn_r (t := t) (n := n) (i := i + 1) (by omega)
      rw [if_neg (show ¬ t i = 40 by omega), if_neg (show ¬ t i = 40 by omega), if_pos z2, if_pos z2]; exact ih _ _ 0 _ (by omega) r.2 z6
    · obtain ⟨z1, z2, z3, z4, z5, z6, z7, z8⟩ := z
      have r := mt_tn_r (t := t) (n := n) (i := i + 2) (by omega)
      rw [if_neg (show ¬ t i = 40 by omega), if_neg (show ¬ t i = 40 by omega), if_neg (show ¬ t i = 41 by omega), if_neg (show ¬ t i = 41 by omega), if_pos z2, if_pos z2, ← e (i + 1) (by omega) z3]; exact ih _ _ 0 _ (by omega) r.2 z8
    · obtain ⟨z1, z2, z3, z4, z5, z6⟩ := z
      have r := mt_tn_r (t := t) (n := n) (i := i + 1) (by omega)
      rw [if_neg (show ¬ t i = 40 by omega), if_neg (show ¬ t i = 40 by omega), if_neg (show ¬ t i = 41 by omega), if_neg (show ¬ t i = 41 by omega), if_neg (show ¬ (t i = 120 ∨ t i = 117) by omega), if_neg (show ¬ (t i = 120 ∨ t i = 117) by omega), em (t i - 65) (by omega) z4]; exact ih _ _ 0 _ (by omega) r.2 z6
theorem mt_ct_t {n h w : Int} {t t' sg cx cx' : Int → Int} (n0 : 0 ≤ n) (e : mt_teq n t t') (em : ∀ v, 0 ≤ v → v < w → cx v = cx' v) : ∀ (F : Nat) (i d need : Int) (S : Int → Int), 0 ≤ i → i ≤ n → mt_gr t n h w F i d need = 0 → mt_ct t n sg cx F i d S = mt_ct t' n sg cx' F i d S := by
  intro F
  induction F with
  | zero => intro i d need S _ _ _; rfl
  | succ F ih =>
    intro i d need S i0 i1 g
    unfold mt_ct
    by_cases c : n ≤ i
    · rw [if_pos c, if_pos c]
    have ti : t i = t' i := e i i0 (by omega)
    rw [if_neg c, if_neg c, ← ti, ← mt_tm_c e (show 0 ≤ i + 1 by omega), ← mt_tm_c e (show 0 ≤ i + 2 by omega), ← mt_tn_c e (show 0 ≤ i + 1 by omega), ← mt_tn_c e (show 0 ≤ i + 2 by omega)]
    rcases mt_gr_c n0 i0 g with z | z | z | z | z
    · omega
    · rw [if_pos z.2.1, if_pos z.2.1]; exact ih _ _ 1 _ (by omega) (by omega) z.2.2.2
    · obtain ⟨z1, z2, z3, z4, z5, z6⟩ := z
      have r := mt_tn_r (t := t) (n := n) (i := i + 1) (by omega)
      rw [if_neg (show ¬ t i = 40 by omega), if_neg (show ¬ t i = 40 by omega), if_pos z2, if_pos z2]; exact ih _ _ 0 _ (by omega) r.2 z6
    · obtain ⟨z1, z2, z3, z4, z5, z6, z7, z8⟩ := z
      have r := mt_tn_r (t := t) (n := n) (i := i + 2) (by omega)
      rw [if_neg (show ¬ t i = 40 by omega), if_neg (show ¬ t i = 40 by omega), if_neg (show ¬ t i = 41 by omega), if_neg (show ¬ t i = 41 by omega), if_pos z2, if_pos z2]; exact ih _ _ 0 _ (by omega) r.2 z8
    · obtain ⟨z1, z2, z3, z4, z5, z6⟩ := z
      have r := mt_tn_r (t := t) (n := n) (i := i + 1) (by omega)
      rw [if_neg (show ¬ t i = 40 by omega), if_neg (show ¬ t i = 40 by omega), if_neg (show ¬ t i = 41 by omega), if_neg (show ¬ t i = 41 by omega), if_neg (show ¬ (t i = 120 ∨ t i = 117) by omega), if_neg (show ¬ (t i = 120 ∨ t i = 117) by omega), em (t i - 65) (by omega) z4]; exact ih _ _ 0 _ (by omega) r.2 z6
theorem mt_we_ok {n h w : Int} {t : Int → Int} {mk : Int → Int → Int} (n0 : 0 ≤ n) (h5 : h ≤ 5) (em : ∀ v, 0 ≤ v → v < w → mt_M h (mk v) ∧ mt_ok h (mk v)) : ∀ (F : Nat) (i d need : Int) (S : Int → Int → Int), 0 ≤ i → i ≤ n → 0 ≤ d → (∀ k, 0 ≤ k → k ≤ d → mt_M h (S k) ∧ mt_ok h (S k)) → mt_gr t n h w F i d need = 0 → mt_M h (mt_we t n h mk F i d S) ∧ mt_ok h (mt_we t n h mk F i d S) := by
  intro F
  induction F with
  | zero => intro i d need S _ _ d0 hS _; exact hS 0 (by omega) d0
  | succ F ih =>
    intro i d need S i0 i1 d0 hS g
    have st : ∀ (d' : Int) (it : Int → Int), 0 ≤ d' → d' ≤ d → mt_M h it → mt_ok h it → ∀ tm k, 0 ≤ k → k ≤ d' → mt_M h (mt_set S d' (mt_both h (S d') (mt_rep h tm it)) k) ∧ mt_ok h (mt_set S d' (mt_both h (S d') (mt_rep h tm it)) k) := by
      intro d' it e0 e1 m1 m2 tm k k0 k1
      unfold mt_set
      split
      · exact ⟨mt_both_M h5 (hS d' e0 e1).1 (mt_rep_M h5 m1), mt_both_ok h5 (hS d' e0 e1).2.2.2.1⟩
      · exact hS k k0 (by omega)
    unfold mt_we
    rcases mt_gr_c n0 i0 g with z | z | z | z | z
    · rw [if_pos z.1]; exact hS 0 (by omega) d0
    · rw [if_neg (by omega), if_pos z.2.1]
      refine ih _ _ 1 _ (by omega) (by omega) (by omega) (fun k k0 k1 => ?_) z.2.2.2
      unfold mt_set; split
      · exact ⟨mt_str_M h5, mt_str_ok h5⟩
      · exact hS k k0 (by omega)
    · obtain ⟨z1, z2, z3, z4, z5, z6⟩ := z
      have r := mt_tn_r (t := t) (n := n) (i := i + 1) (by omega)
      rw [if_neg (by omega), if_neg (by omega), if_pos z2]
      exact ih _ _ 0 _ (by omega) r.2 (by omega) (st (d - 1) (S d) (by omega) (by omega) (hS d d0 (by omega)).1 (hS d d0 (by omega)).2 _) z6
    · obtain ⟨z1, z2, z3, z4, z5, z6, z7, z8⟩ := z
      have r := mt_tn_r (t := t) (n := n) (i := i + 2) (by omega)
      rw [if_neg (by omega), if_neg (by omega), if_neg (by omega), if_pos z2]
      exact ih _ _ 0 _ (by omega) r.2 d0 (st d _ d0 (by omega) (mt_sgn_M h5 (by omega) (by omega)) (mt_sgn_ok h5) _) z8
    · obtain ⟨z1, z2, z3, z4, z5, z6⟩ := z
      have r := mt_tn_r (t := t) (n := n) (i := i + 1) (by omega)
      rw [if_neg (by omega), if_neg (by omega), if_neg (by omega), if_neg (by omega)]
      have m := em (t i - 65) (by omega) z4
      exact ih _ _ 0 _ (by omega) r.2 d0 (st d _ d0 (by omega) m.1 m.2 _) z6
/-- all words: what they make, and their counts -/
def mt_mkf (h : Int) (T : Int → Int → Int) (sz : Int → Int) : Nat → (Int → Int → Int)
  | 0 => fun _ => mt_str h
  | w + 1 => mt_set (mt_mkf h T sz w) w (mt_wo (T w) (sz w) h (mt_mkf h T sz w))
def mt_cf (sg : Int → Int) (T : Int → Int → Int) (sz : Int → Int) : Nat → (Int → Int)
  | 0 => fun _ => 0
  | w + 1 => mt_st (mt_cf sg T sz w) w (mt_ctw (T w) (sz w) sg (mt_cf sg T sz w))
theorem mt_mkf_lo {h : Int} {T : Int → Int → Int} {sz : Int → Int} : ∀ (a b : Nat) (v : Int), v < a → a ≤ b → mt_mkf h T sz b v = mt_mkf h T sz a v := by
  intro a b
  induction b with
  | zero => intro v hv ha; have : a = 0 := by omega
            subst this; rfl
  | succ b ih =>
    intro v hv ha
    by_cases c : a = b + 1
    · subst c; rfl
    · rw [← ih v hv (by omega)]
      show mt_set (mt_mkf h T sz b) b _ v = _
      unfold mt_set; rw [if_neg (by omega)]
theorem mt_cf_lo {sg : Int → Int} {T : Int → Int → Int} {sz : Int → Int} : ∀ (a b : Nat) (v : Int), v < a → a ≤ b → mt_cf sg T sz b v = mt_cf sg T sz a v := by
  intro a b
  induction b with
  | zero => intro v hv ha; have : a = 0 := by omega
            subst this; rfl
  | succ b ih =>
    intro v hv ha
    by_cases c : a = b + 1
    · subst c; rfl
    · rw [← ih v hv (by omega)]
      show mt_st (mt_cf sg T sz b) b _ v = _
      unfold mt_st; rw [if_neg (by omega)]
def mt_mk (h : Int) (T : Int → Int → Int) (sz : Int → Int) : Int → Int → Int := mt_mkf h T sz 16
def mt_cn (sg : Int → Int) (T : Int → Int → Int) (sz : Int → Int) : Int → Int := mt_cf sg T sz 16
/-- a good TEXT for word w -/
def mt_good (h w : Int) (t : Int → Int) (n : Int) : Prop := 1 ≤ n ∧ n ≤ 100 ∧ (∀ j, 0 ≤ j → j < n → ml_I8 (t j)) ∧ mt_gr t n h w (n.toNat + 1) 0 0 1 = 0
theorem mt_good_c {h w n : Int} {t t' : Int → Int} (e : mt_teq n t t') (g : mt_good h w t n) : mt_good h w t' n := ⟨g.1, g.2.1, fun j j0 j1 => by rw [← e j j0 j1]; exact g.2.2.1 j j0 j1, by rw [← mt_gr_t e _ _ _ _ (Int.le_refl 0)]; exact g.2.2.2⟩
theorem mt_mk_e {h : Int} {T : Int → Int → Int} {sz : Int → Int} {w : Nat} (hw : w < 16) (g : mt_good h w (T w) (sz w)) : mt_mk h T sz w = mt_wo (T w) (sz w) h (mt_mk h T sz) := by
  unfold mt_mk
  rw [mt_mkf_lo (w + 1) 16 w (by omega) (by omega)]
  show mt_set (mt_mkf h T sz w) w (mt_wo (T w) (sz w) h (mt_mkf h T sz w)) w = _
  unfold mt_set
  rw [if_pos rfl]
  exact mt_we_t (w := w) (by have := g.1; omega) (fun _ _ _ => rfl) (fun v v0 v1 => (mt_mkf_lo w 16 v v1 (by omega)).symm) _ _ _ 1 _ (Int.le_refl 0) (by have := g.1; omega) g.2.2.2
theorem mt_cn_e {h : Int} {sg : Int → Int} {T : Int → Int → Int} {sz : Int → Int} {w : Nat} (hw : w < 16) (g : mt_good h w (T w) (sz w)) : mt_cn sg T sz w = mt_ctw (T w) (sz w) sg (mt_cn sg T sz) := by
  unfold mt_cn
  rw [mt_cf_lo (w + 1) 16 w (by omega) (by omega)]
  show mt_st (mt_cf sg T sz w) w (mt_ctw (T w) (sz w) sg (mt_cf sg T sz w)) w = _
  unfold mt_st
  rw [if_pos rfl]
  exact mt_ct_t (h := h) (w := w) (by have := g.1; omega) (fun _ _ _ => rfl) (fun v v0 v1 => (mt_cf_lo w 16 v v1 (by omega)).symm) _ _ _ 1 _ (Int.le_refl 0) (by have := g.1; omega) g.2.2.2
theorem mt_mk_ok {h : Int} {T : Int → Int → Int} {sz : Int → Int} (h5 : h ≤ 5) : ∀ (w : Nat), w < 16 → (∀ v : Nat, v ≤ w → mt_good h v (T v) (sz v)) → mt_M h (mt_mk h T sz w) ∧ mt_ok h (mt_mk h T sz w) := by
  intro w
  induction w using Nat.strongRecOn with
  | ind w ih =>
    intro hw hg
    have g := hg w (Nat.le_refl w)
    rw [mt_mk_e hw g]
    refine mt_we_ok (w := w) (by have := g.1; omega) h5 (fun v v0 v1 => ?_) _ _ _ 1 _ (Int.le_refl 0) (by have := g.1; omega) (Int.le_refl 0) (fun k _ _ => ⟨mt_str_M h5, mt_str_ok h5⟩) g.2.2.2
    have := ih v.toNat (by omega) (by omega) (fun u hu => hg u (by omega))
    rw [show ((v.toNat : Nat) : Int) = v by omega] at this
    exact this
theorem mt_cn_0 {h : Int} {sg : Int → Int} {T : Int → Int → Int} {sz : Int → Int} (s0 : ∀ c, 0 ≤ sg c) : ∀ (w : Nat), w < 16 → (∀ v : Nat, v ≤ w → mt_good h v (T v) (sz v)) → 0 ≤ mt_cn sg T sz w := by
  intro w
  induction w using Nat.strongRecOn with
  | ind w ih =>
    intro hw hg
    have g := hg w (Nat.le_refl w)
    rw [mt_cn_e hw g]
    refine mt_ct_0 (h := h) (w := w) (by have := g.1; omega) s0 (fun v v0 v1 => ?_) _ _ _ 1 _ (Int.le_refl 0) (by have := g.1; omega) (Int.le_refl 0) (fun _ _ _ => Int.le_refl 0) g.2.2.2
    have := ih v.toNat (by omega) (by omega) (fun u hu => hg u (by omega))
    rw [show ((v.toNat : Nat) : Int) = v by omega] at this
    exact this
