/-! the model: walk. A step can be taken back, and the start comes from nowhere: no place comes twice -/
def mq_sp (val : Int → Int) (s : Int × Int × Int) : Int × Int × Int :=
  let v := val s.1
  let i := s.2.1 = Int.tdiv v 2 ∨ s.2.1 = Int.tdiv v 2 + 1
  let r := if s.2.1 = Int.tdiv v 2 then Int.tdiv v 2 + 1 else if s.2.1 = Int.tdiv v 2 + 1 then Int.tdiv v 2 else s.2.1
  let w := if s.2.1 = Int.tdiv v 2 ∨ s.2.1 = Int.tdiv v 2 + 1 then (if Int.tmod v 2 = 1 then s.2.2 else 1 - s.2.2) else s.2.2
  (s.1 + (if w = 0 then -1 else 1), r, w)
def mq_ob (val : Int → Int) (s : Int × Int × Int) : Nat → Int × Int × Int
  | 0 => s
  | k + 1 => mq_sp val (mq_ob val s k)
theorem mq_sp_1 (val : Int → Int) (s : Int × Int × Int) : (mq_sp val s).1 = s.1 + (if (mq_sp val s).2.2 = 0 then -1 else 1) := rfl
theorem mq_sp_r (val : Int → Int) (s : Int × Int × Int) : (mq_sp val s).2.1 = if s.2.1 = Int.tdiv (val s.1) 2 then Int.tdiv (val s.1) 2 + 1 else if s.2.1 = Int.tdiv (val s.1) 2 + 1 then Int.tdiv (val s.1) 2 else s.2.1 := rfl
theorem mq_sp_w (val : Int → Int) (s : Int × Int × Int) : (mq_sp val s).2.2 = if s.2.1 = Int.tdiv (val s.1) 2 ∨ s.2.1 = Int.tdiv (val s.1) 2 + 1 then (if Int.tmod (val s.1) 2 = 1 then s.2.2 else 1 - s.2.2) else s.2.2 := rfl
theorem mq_sp_i {val : Int → Int} {s s' : Int × Int × Int} (e : mq_sp val s = mq_sp val s') : s = s' := by
  have a1 := mq_sp_1 val s
  have b1 := mq_sp_1 val s'
  have a2 := mq_sp_r val s
  have b2 := mq_sp_r val s'
  have a3 := mq_sp_w val s
  have b3 := mq_sp_w val s'
  rw [e] at a1 a2 a3
  have e1 : s.1 = s'.1 := by omega
  rw [e1] at a2 a3
  generalize val s'.1 = v at *
  generalize Int.tdiv v 2 = q at *
  generalize Int.tmod v 2 = u at *
  have e2 : s.2.1 = s'.2.1 := by
    rw [a2] at b2
    split at b2 <;> split at b2 <;> (try split at b2) <;> (try split at b2) <;> omega
  rw [e2] at a3
  have e3 : s.2.2 = s'.2.2 := by
    rw [a3] at b3
    split at b3
    · split at b3 <;> omega
    · exact b3
  obtain ⟨x, y, z⟩ := s
  obtain ⟨x', y', z'⟩ := s'
  dsimp only at e1 e2 e3
  rw [e1, e2, e3]
theorem mq_ob_i {val : Int → Int} {s : Int × Int × Int} : ∀ (i d : Nat), mq_ob val s i = mq_ob val s (i + d) → mq_ob val s 0 = mq_ob val s d := by
  intro i
  induction i with
  | zero => intro d e; rw [Nat.zero_add] at e; exact e
  | succ i ih =>
    intro d e
    rw [show i + 1 + d = (i + d) + 1 by omega] at e
    exact ih d (mq_sp_i e)
theorem mq_ob_b {val : Int → Int} {s : Int × Int × Int} {len : Int} {k : Nat} (l0 : 0 ≤ len) (l1 : len ≤ 2000) (st : (s.1 = 0 ∧ s.2.2 = 1) ∨ (s.1 = len - 1 ∧ s.2.2 = 0)) (hr : ∀ j, j ≤ k → -70 ≤ (mq_ob val s j).2.1 ∧ (mq_ob val s j).2.1 ≤ 70 ∧ ((mq_ob val s j).2.2 = 0 ∨ (mq_ob val s j).2.2 = 1)) (hp : ∀ j, j < k → 0 ≤ (mq_ob val s j).1 ∧ (mq_ob val s j).1 < len) : k ≤ 564000 := by
  by_cases q : k ≤ 564000
  · exact q
  · obtain ⟨i, j, hij, hj, e⟩ := mt_ph 564000 (fun i => ((mq_ob val s i).1 * 141 + ((mq_ob val s i).2.1 + 70)) * 2 + (mq_ob val s i).2.2) (fun i hi => by
      have a := hr i (by omega)
      have b := hp i (by omega)
      try dsimp only
      omega)
    try dsimp only at e
    have a := hr i (by omega)
    have b := hp i (by omega)
    have a' := hr j (by omega)
    have b' := hp j (by omega)
    have e1 : (mq_ob val s i).1 = (mq_ob val s j).1 := by omega
    have e2 : (mq_ob val s i).2.1 = (mq_ob val s j).2.1 := by omega
    have e3 : (mq_ob val s i).2.2 = (mq_ob val s j).2.2 := by omega
    have ee : mq_ob val s i = mq_ob val s (i + (j - i)) := by
      rw [show i + (j - i) = j by omega]
      exact Prod.ext e1 (Prod.ext e2 e3)
    have z := mq_ob_i i (j - i) ee
    obtain ⟨d, hd⟩ : ∃ d, j - i = d + 1 := ⟨j - i - 1, by omega⟩
    rw [hd] at z
    have z : s = mq_sp val (mq_ob val s d) := z
    have f := mq_sp_1 val (mq_ob val s d)
    rw [← z] at f
    have p := hp d (by omega)
    rcases st with ⟨s1, s2⟩ | ⟨s1, s2⟩
    · rw [s1, s2, if_neg (by omega)] at f; omega
    · rw [s1, s2, if_pos rfl] at f; omega
theorem mq_tdiv {v : Int} (hv : ml_I8 v) : -64 ≤ Int.tdiv v 2 ∧ Int.tdiv v 2 ≤ 64 := by
  have := hv.1; have := hv.2
  rcases Int.le_total 0 v with z | z
  · rw [Int.tdiv_eq_ediv_of_nonneg z]; omega
  · have := Int.neg_tdiv v 2
    rw [Int.tdiv_eq_ediv_of_nonneg (show 0 ≤ -v by omega)] at this
    omega
theorem mq_tmod {v : Int} (hv : ml_I8 v) : -2 ≤ Int.tmod v 2 ∧ Int.tmod v 2 ≤ 2 := by
  have := hv.1; have := hv.2
  rcases Int.le_total 0 v with z | z
  · rw [Int.tmod_eq_emod_of_nonneg z]; omega
  · have := Int.neg_tmod v 2
    rw [Int.tmod_eq_emod_of_nonneg (show 0 ≤ -v by omega)] at this
    omega
theorem s_follow12 {Q : Int → ml_St → Prop} {w x len rail way pos h : Int} {σ : ml_St} (h2 : 2 ≤ h) (h5 : h ≤ 5) (eh : σ 215 2 = h) (w0 : 0 ≤ w) (w1 : w < 16) (l0 : 0 ≤ len) (l1 : len ≤ 2000) (r0 : 0 ≤ rail) (r1 : rail < h) (st : (pos = 0 ∧ way = 1) ∨ (pos = len - 1 ∧ way = 0)) (k : ∀ r, Q r σ) : ∃ N, f_X12_walk_u120 Q (f_X12_walk_u175 Q) (f_X12_walk_u242 Q) N σ w x len way rail pos 0 := by
  have L : ∀ (N n : Nat) (c : Int), 564000 - (n : Int) < N → 0 ≤ c → c ≤ n → (∀ j, j ≤ n → -70 ≤ (mq_ob (fun p => σ 254 (2000 * w + p)) (pos, rail, way) j).2.1 ∧ (mq_ob (fun p => σ 254 (2000 * w + p)) (pos, rail, way) j).2.1 ≤ 70 ∧ ((mq_ob (fun p => σ 254 (2000 * w + p)) (pos, rail, way) j).2.2 = 0 ∨ (mq_ob (fun p => σ 254 (2000 * w + p)) (pos, rail, way) j).2.2 = 1)) → (∀ j, j < n → 0 ≤ (mq_ob (fun p => σ 254 (2000 * w + p)) (pos, rail, way) j).1 ∧ (mq_ob (fun p => σ 254 (2000 * w + p)) (pos, rail, way) j).1 < len) → f_X12_walk_u120 Q (f_X12_walk_u175 Q) (f_X12_walk_u242 Q) N σ w x len (mq_ob (fun p => σ 254 (2000 * w + p)) (pos, rail, way) n).2.2 (mq_ob (fun p => σ 254 (2000 * w + p)) (pos, rail, way) n).2.1 (mq_ob (fun p => σ 254 (2000 * w + p)) (pos, rail, way) n).1 c := by
    intro N
    induction N with
    | zero =>
      intro n c hN c0 c1 hr hp
      have := mq_ob_b l0 l1 st hr hp
      omega
    | succ N ih =>
      intro n c hN c0 c1 hr hp
      have hb := mq_ob_b l0 l1 st hr hp
      have hrn := hr n (Nat.le_refl n)
      have e1 : mq_ob (fun p => σ 254 (2000 * w + p)) (pos, rail, way) (n + 1) = mq_sp (fun p => σ 254 (2000 * w + p)) (mq_ob (fun p => σ 254 (2000 * w + p)) (pos, rail, way) n) := rfl
      generalize hs : mq_ob (fun p => σ 254 (2000 * w + p)) (pos, rail, way) n = s at *
      have f1 := mq_sp_1 (fun p => σ 254 (2000 * w + p)) s
      have f2 := mq_sp_r (fun p => σ 254 (2000 * w + p)) s
      have f3 := mq_sp_w (fun p => σ 254 (2000 * w + p)) s
      try dsimp only at f2 f3
      have KE : f_X12_walk_u242 Q σ x s.2.2 s.2.1 := by
        unfold f_X12_walk_u242 f_X12_walk_u268
        rw [eh]
        exact ⟨fun _ => k _, fun _ => ⟨fun _ => k _, fun _ _ => ⟨mt_I (by omega) (by omega), k _⟩⟩⟩
      unfold f_X12_walk_u120
      refine ⟨fun _ => KE, fun q1 => ⟨fun _ => KE, fun q2 => ⟨mt_I2 (by omega) (by omega), mt_I2 (by omega) (by omega), by omega, by omega, fun I8 y6 e6 => ⟨by omega, ?_, fun y8 e8 => ?_⟩⟩⟩⟩
      · have := mq_tdiv I8
        rw [e6]; exact mt_I (by omega) (by omega)
      rw [← e6] at f2 f3 I8
      have d := mq_tdiv I8
      have m := mq_tmod I8
      rw [← e8] at f2 f3 d
      -- on
      have NX : ∀ c' r' w', 0 ≤ c' → c' ≤ (n : Int) + 1 → r' = (mq_sp (fun p => σ 254 (2000 * w + p)) s).2.1 → w' = (mq_sp (fun p => σ 254 (2000 * w + p)) s).2.2 → -70 ≤ r' → r' ≤ 70 → (w' = 0 ∨ w' = 1) → f_X12_walk_u224 Q (f_X12_walk_u120 Q (f_X12_walk_u175 Q) (f_X12_walk_u242 Q) N) σ w x len w' r' s.1 c' := by
        intro c' r' w' a0 a1 er ew b0 b1 b2
        have go : ∀ y, y = (mq_sp (fun p => σ 254 (2000 * w + p)) s).1 → f_X12_walk_u120 Q (f_X12_walk_u175 Q) (f_X12_walk_u242 Q) N σ w x len w' r' y c' := by
          intro y ey
          have := ih (n + 1) c' (by omega) a0 (by omega) (fun j hj => by
            by_cases z : j = n + 1
            · rw [z, e1, ← er, ← ew]; exact ⟨b0, b1, b2⟩
            · exact hr j (by omega)) (fun j hj => by
            by_cases z : j = n
            · rw [z, hs]; omega
            · exact hp j (by omega))
          rw [e1, ← er, ← ew, ← ey] at this
          exact this
        rw [← ew] at f1
        unfold f_X12_walk_u224 f_X12_walk_u236
        refine ⟨fun z => ⟨mt_I (by omega) (by omega), fun y2 e2 => go y2 ?_⟩, fun z => ⟨mt_I (by omega) (by omega), fun y2 e2 => go y2 ?_⟩⟩
        · rw [f1, if_pos z]; exact e2
        · rw [f1, if_neg z]; exact e2
      have MT : (s.2.1 = y8 ∨ s.2.1 = y8 + 1) → f_X12_walk_u169 Q (f_X12_walk_u120 Q (f_X12_walk_u175 Q) (f_X12_walk_u242 Q) N) (f_X12_walk_u175 Q) σ w x len s.2.2 s.2.1 s.1 c y6 y8 := by
        intro hi
        rw [if_pos hi] at f3
        have W2 : ∀ c' r', 0 ≤ c' → c' ≤ (n : Int) + 1 → r' = (mq_sp (fun p => σ 254 (2000 * w + p)) s).2.1 → -70 ≤ r' → r' ≤ 70 → f_X12_walk_u197 Q (f_X12_walk_u120 Q (f_X12_walk_u175 Q) (f_X12_walk_u242 Q) N) σ w x len s.2.2 s.1 c' y6 r' := by
          intro c' r' a0 a1 er b0 b1
          unfold f_X12_walk_u197 f_X12_walk_u212 f_X12_walk_u222
          refine ⟨by omega, mt_I (by omega) (by omega), fun z => ⟨fun z2 => ?_, fun z2 => ?_⟩, fun z => ⟨fun z2 => ?_, fun z2 => ?_⟩⟩
          · rw [if_neg z] at f3; exact NX c' r' 0 a0 a1 er (by omega) b0 b1 (by omega)
          · rw [if_neg z] at f3; exact NX c' r' 1 a0 a1 er (by omega) b0 b1 (by omega)
          · rw [if_pos z] at f3; exact NX c' r' 0 a0 a1 er (by omega) b0 b1 (by omega)
          · rw [if_pos z] at f3; exact NX c' r' 1 a0 a1 er (by omega) b0 b1 (by omega)
        unfold f_X12_walk_u169
        refine ⟨fun _ => ⟨mt_I2 (by omega) (by omega), fun y2 e2 => ⟨fun z => ?_, fun z => ⟨mt_I (by omega) (by omega), ?_⟩⟩⟩, fun _ => ?_⟩
        · rw [if_neg z, if_pos (by omega)] at f2
          exact W2 y2 y8 (by omega) (by omega) f2.symm (by omega) (by omega)
        · rw [if_pos z] at f2
          exact W2 y2 (y8 + 1) (by omega) (by omega) f2.symm (by omega) (by omega)
        · unfold f_X12_walk_u175; exact k _
      refine ⟨fun z => MT (Or.inl z), fun z => ⟨mt_I (by omega) (by omega), fun z2 => ?_, fun z2 => MT (Or.inr z2)⟩⟩
      rw [if_neg z, if_neg z2] at f2
      rw [if_neg (by omega)] at f3
      exact NX c s.2.1 s.2.2 c0 (by omega) f2.symm f3.symm (by omega) (by omega) hrn.2.2
  have := L 564001 0 0 (by omega) (by omega) (by omega) (fun j hj => by
    have : j = 0 := by omega
    rw [this]
    show -70 ≤ rail ∧ rail ≤ 70 ∧ (way = 0 ∨ way = 1)
    omega) (fun j hj => absurd hj (by omega))
  exact ⟨_, this⟩
theorem m_walk {Q : Int → ml_St → Prop} {h told ts cap w e x : Int} {tb cl pr sz : Int → Int} {T : Int → Int → Int} {τ : ml_St} (i : IM h told ts cap tb cl pr sz T τ) (k : ∀ r σ, IM h told ts cap tb cl pr sz T σ → (∀ j, j < 215 → σ j = τ j) → Q r σ) : f_X12_walk τ w e x Q := by
  have no : ∀ r, Q r τ := fun r => k r τ i (fun _ _ => rfl)
  have t16 := i.1.2.2.2.2.2
  have h2 := i.1.2.2.1
  have h5 := i.1.2.2.2.1
  unfold f_X12_walk f_X12_walk_u0
  unfold f_X12_walk_u33
  refine m_isWord i (fun w0 w1 _ => ⟨fun z => absurd z (by omega), fun _ => ?_⟩) (fun _ _ => ⟨fun _ => no _, fun z => absurd rfl z⟩)
  obtain ⟨c1, c2, c3, c4⟩ := IM_cv i w0 w1
  have nn := (i.2.2.2.2 w w0 w1).2.1
  refine s_signsOf w0 (by omega) nn.1 nn.2 c3 c4 (fun _ => ⟨fun _ => no _, fun few => m_isEnd h2 h5 i.1.1 (fun e0 e1 _ => ⟨fun z => absurd z (by omega), fun _ => ⟨fun _ => ⟨18, ?_⟩, fun _ => no _⟩⟩) (fun _ _ => ⟨fun _ => no _, fun z => absurd rfl z⟩)⟩)
  have few : mt_cn mt_one T sz w ≤ 2000 := by unfold mt_top at few; omega
  -- the end
  have E : ∀ σ, IM h told ts cap tb cl pr sz T σ → (∀ j, j < 215 → σ j = τ j) → σ 255 w = min 2001 (mt_cn mt_one T sz w) → f_X12_walk_u56 Q σ w e x := by
    intro σ i' f' ew
    unfold f_X12_walk_u56
    unfold f_X12_walk_u77 f_X12_walk_u97 f_X12_walk_u115
    rw [ew, i'.1.1]
    have KK := fun r => k r σ i' f'
    refine ⟨w0, by omega, fun _ y2 e2 _ => ⟨fun q _ => ⟨fun _ _ => ⟨mt_I (by omega) (by omega), fun _ => ⟨fun _ => ⟨mt_I (by omega) (by omega), s_follow12 h2 h5 i'.1.1 w0 (by omega) (by omega) (by omega) (by omega) (by omega) (Or.inr ⟨rfl, rfl⟩) KK⟩, fun z => absurd q z⟩⟩, fun z => absurd q z⟩, fun q _ => ⟨fun z => absurd z q, fun _ _ => ⟨fun z => absurd z q, fun _ => s_follow12 h2 h5 i'.1.1 w0 (by omega) (by omega) (by omega) e0 (by omega) (Or.inl ⟨rfl, rfl⟩) KK⟩⟩⟩⟩
  have L : ∀ (N : Nat) (v : Int) (σ : ml_St), 0 ≤ v → v ≤ w + 1 → w + 1 - v < N → IM h told ts cap tb cl pr sz T σ → (∀ j, j < 215 → σ j = τ j) → (∀ u, 0 ≤ u → u < v → σ 255 u = min 2001 (mt_cn mt_one T sz u)) → f_X12_walk_u38 Q (f_X12_walk_u56 Q) N σ w e x v := by
    intro N
    induction N with
    | zero => intro v σ v0 v1 hN; omega
    | succ N ih =>
      intro v σ v0 v1 hN i' f' hv
      unfold f_X12_walk_u38
      refine ⟨fun _ => E σ i' f' (hv w w0 (by omega)), fun q => ?_⟩
      have vt : v < told := by omega
      obtain ⟨g, s1, s2⟩ := (i'.2.2.2.2 v v0 vt).1
      have et : mt_teq (sz v) (T v) (fun j => σ 218 (100 * v + j)) := fun j j0 j1 => (s2 j j0 j1).symm
      have g' := mt_good_c et g
      have iT := IM_T i'
      have so0 : ∀ c, 0 ≤ mt_one c := fun c => by unfold mt_one; omega
      have c0 : ∀ u, 0 ≤ u → u < v → 0 ≤ mt_cn mt_one T sz u := fun u u0 u1 => by
        have := mt_cn_0 (h := h) (T := T) (sz := sz) so0 u.toNat (by omega) (fun z hz => iT z (by omega))
        rw [show ((u.toNat : Nat) : Int) = u by omega] at this
        exact this
      have ec : mt_ctw (fun j => σ 218 (100 * v + j)) (sz v) mt_one (mt_cn mt_one T sz) = mt_cn mt_one T sz v := by
        have := mt_cn_e (h := h) (sg := mt_one) (T := T) (sz := sz) (w := v.toNat) (by omega) (by rw [show ((v.toNat : Nat) : Int) = v by omega]; exact g)
        rw [show ((v.toNat : Nat) : Int) = v by omega] at this
        rw [this]
        exact (mt_ct_t (h := h) (w := v) (by have := g.1; omega) et (fun _ _ _ => rfl) _ _ _ 1 _ (Int.le_refl 0) (by have := g.1; omega) g.2.2.2).symm
      refine s_writesOut (h := h) (cx := mt_cn mt_one T sz) v0 (by omega) h5 (by have := g.1; omega) g.2.1 s1 g'.2.2.1 g'.2.2.2 (fun u u0 u1 => ⟨c0 u u0 u1, hv u u0 u1⟩) (fun σ2 f2 o2 e2 => ⟨mt_I (by omega) (by omega), fun y ey => ?_⟩)
      subst ey
      rw [ec] at e2
      refine ih (v + 1) σ2 (by omega) (by omega) (by omega) (IM_kq (mt_kq_o (fun j hj => f2.1 j (by omega) (by omega) (by omega) (by omega)) (fun b b1 b2 => f2.2 b (by omega) (by omega) (by omega))) i') (fun j hj => by rw [f2.1 j (by omega) (by omega) (by omega) (by omega), f' j hj]) (fun u u0 u1 => ?_)
      by_cases z : u = v
      · rw [z]; exact e2
      · rw [o2 u z]; exact hv u u0 (by omega)
  exact L 18 0 τ (by omega) (by omega) (by omega) i (fun _ _ => rfl) (fun u u0 u1 => absurd u1 (by omega))
