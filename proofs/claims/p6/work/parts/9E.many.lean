/-! the model: many -/
theorem mq_J_k {h told ts cap nl : Int} {tb cl pr sz : Int → Int} {T : Int → Int → Int} {τ0 σ σ' : ml_St} {F : Nat → Int → Int} {c : Nat} (f : ∀ j, j ≠ 215 → j ≤ 243 → σ' j = σ j) (b : ∀ b, b ≤ 39 → σ' 215 b = σ 215 b) (i : mq_J h told ts cap tb cl pr sz T τ0 nl F c σ) : mq_J h told ts cap tb cl pr sz T τ0 nl F c σ' := by
  obtain ⟨i1, i2, i3, i4⟩ := i
  refine ⟨mq_L_k (mt_kq_o (fun j hj => f j (by omega) (by omega)) (fun c b1 b2 => b c (by omega))) (b 38 (by omega)) (f 237 (by omega) (by omega)) i1, mq_s_k (b 39 (by omega)) (f 238 (by omega) (by omega)) (f 239 (by omega) (by omega)) (f 243 (by omega) (by omega)) i2, ?_, ?_⟩
  · unfold mq_1; rw [f 242 (by omega) (by omega)]; exact i3
  · unfold mq_n; rw [f 240 (by omega) (by omega), f 241 (by omega) (by omega)]; exact i4
/-- bounds that searches need -/
theorem mq_J_b {h told ts cap nl : Int} {tb cl pr sz : Int → Int} {T : Int → Int → Int} {τ0 σ : ml_St} {F : Nat → Int → Int} {c : Nat} (i : mq_J h told ts cap tb cl pr sz T τ0 nl F c σ) : σ 215 39 = c ∧ c ≤ 945 ∧ σ 215 38 = nl ∧ 0 ≤ nl ∧ nl ≤ 6 ∧ (∀ s : Int, 0 ≤ s → s < c → 0 ≤ σ 243 s ∧ σ 243 s ≤ 10) ∧ (∀ l, 0 ≤ l → l < nl → 0 ≤ σ 237 l ∧ σ 237 l < 16 ∧ 0 ≤ σ 229 (σ 237 l) ∧ 0 ≤ σ 242 l ∧ σ 242 l < c) := by
  have h2 := i.1.1.1.2.2.1
  have h5 := i.1.1.1.2.2.2.1
  have hc := i.1.1.2.2.1.2.2.2
  refine ⟨i.2.1.1, mq_s_le h2 h5 i.2.1, i.1.2.2.1, i.1.2.2.2.1, i.1.2.2.2.2.1, fun s s0 s1 => ?_, fun l l0 l1 => ?_⟩
  · obtain ⟨y1, y2, y3, y4⟩ := i.2.1.2.1 s.toNat (by omega)
    rw [show ((s.toNat : Nat) : Int) = s by omega] at y4
    rw [y4]; exact mt_cl_r (by omega) h5 y1 hc
  · have md := i.1.2.2.2.2.2 l l0 l1
    obtain ⟨g1, g2, g3, g4, g5⟩ := IM_w i.1.1 md
    have b := mq_20 (IM_cv i.1.1 md.1 md.2.1).1 md.2.2
    have f := i.2.2.1 l l0 l1
    rw [g1.2.1]
    exact ⟨g4, g5, b.1, f.1, f.2⟩
/-- of one place and one number of loops -/
def ms_Wx (nx e : Int → Int → Int) (v q l p m : Int) : Nat → Int
  | 0 => 0
  | a + 1 => ms_Wx nx e v q l p m a + (if nx p a = q ∧ m + e p a = l then v else 0)
theorem ms_Wx_s (nx e : Int → Int → Int) (v q l p m : Int) (a : Nat) : ms_Wx nx e v q l p m (a + 1) = ms_Wx nx e v q l p m a + (if nx p a = q ∧ m + e p a = l then v else 0) := rfl
theorem ms_Wa_s (nx mo V : Int → Int → Int) (q l p : Int) (a : Nat) : ms_Wa nx mo V q l p (a + 1) = ms_Wa nx mo V q l p a + (if nx p a = q ∧ mo p a ≤ l then V p (l - mo p a) else 0) := rfl
theorem ms_Wx_0 {nx e : Int → Int → Int} {q l p m : Int} : ∀ a : Nat, ms_Wx nx e 0 q l p m a = 0 := by
  intro a
  induction a with
  | zero => rfl
  | succ a ih => unfold ms_Wx; rw [ih]; split <;> rfl
theorem ms_Wx_r {nx e : Int → Int → Int} {v q l p m : Int} (v0 : 0 ≤ v) : ∀ a : Nat, 0 ≤ ms_Wx nx e v q l p m a := by
  intro a
  induction a with
  | zero => exact Int.le_refl 0
  | succ a ih => unfold ms_Wx; split <;> omega
theorem ms_Wx_4 {nx e V : Int → Int → Int} {q l p : Int} (l0 : 0 ≤ l) (l4 : l < 4) : ∀ a : Nat, (∀ i : Int, 0 ≤ i → i < a → 0 ≤ e p i) → ms_Wx nx e (V p 0) q l p 0 a + ms_Wx nx e (V p 1) q l p 1 a + ms_Wx nx e (V p 2) q l p 2 a + ms_Wx nx e (V p 3) q l p 3 a = ms_Wa nx e V q l p a := by
  intro a
  induction a with
  | zero => intro _; rfl
  | succ a ih =>
    intro h
    have i := ih (fun i i0 i1 => h i i0 (by omega))
    have e0 := h a (by omega) (by omega)
    unfold ms_Wx ms_Wa
    by_cases z : nx p a = q
    · by_cases y : e p a ≤ l
      · rw [if_pos (c := nx p a = q ∧ e p a ≤ l) ⟨z, y⟩]
        have c : l - e p a = 0 ∨ l - e p a = 1 ∨ l - e p a = 2 ∨ l - e p a = 3 := by omega
        rcases c with c | c | c | c
        · rw [c, if_pos ⟨z, by omega⟩, if_neg (fun w => by omega), if_neg (fun w => by omega), if_neg (fun w => by omega)]; omega
        · rw [c, if_neg (fun w => by omega), if_pos ⟨z, by omega⟩, if_neg (fun w => by omega), if_neg (fun w => by omega)]; omega
        · rw [c, if_neg (fun w => by omega), if_neg (fun w => by omega), if_pos ⟨z, by omega⟩, if_neg (fun w => by omega)]; omega
        · rw [c, if_neg (fun w => by omega), if_neg (fun w => by omega), if_neg (fun w => by omega), if_pos ⟨z, by omega⟩]; omega
      · rw [if_neg (c := nx p a = q ∧ e p a ≤ l) (fun w => y w.2), if_neg (fun w => by omega), if_neg (fun w => by omega), if_neg (fun w => by omega), if_neg (fun w => by omega)]; omega
    · rw [if_neg (c := nx p a = q ∧ e p a ≤ l) (fun w => z w.1), if_neg (fun w => z w.1), if_neg (fun w => z w.1), if_neg (fun w => z w.1), if_neg (fun w => z w.1)]; omega
/-- what the rows before j spread; state s is place s + 1 -/
def ms_Z (L : Int) (nx e V : Int → Int → Int) (q l : Int) : Nat → Int
  | 0 => 0
  | j + 1 => ms_Z L nx e V q l j + ms_Wx nx e (V ((j : Int) / 4 + 1) (j % 4)) q l (j / 4 + 1) (j % 4) L.toNat
theorem ms_Z_r {L : Int} {nx e V : Int → Int → Int} {q l : Int} (v : ∀ p l, 0 ≤ V p l) : ∀ j, 0 ≤ ms_Z L nx e V q l j := by
  intro j
  induction j with
  | zero => exact Int.le_refl 0
  | succ j ih => unfold ms_Z; have := ms_Wx_r (nx := nx) (e := e) (q := q) (l := l) (p := (j : Int) / 4 + 1) (m := (j : Int) % 4) (v ((j : Int) / 4 + 1) (j % 4)) L.toNat; omega
theorem ms_Z_4 {L : Int} {nx e V : Int → Int → Int} {q l : Int} (l0 : 0 ≤ l) (l4 : l < 4) (z : ms_Wa nx e V q l 0 L.toNat = 0) : ∀ s : Nat, (∀ p i : Int, 0 ≤ p → p < (s : Int) + 1 → 0 ≤ i → i < L → 0 ≤ e p i) → ms_Z L nx e V q l (4 * s) = ms_Wp L nx e V q l (s + 1) := by
  intro s
  induction s with
  | zero => intro _; show (0 : Int) = 0 + ms_Wa nx e V q l 0 L.toNat; omega
  | succ s ih =>
    intro h
    have i := ih (fun p i p0 p1 => h p i p0 (by omega))
    have w := ms_Wx_4 (nx := nx) (e := e) (V := V) (q := q) (p := (s : Int) + 1) l0 l4 L.toNat (fun i i0 i1 => h _ i (by omega) (by omega) i0 (by omega))
    rw [show 4 * (s + 1) = 4 * s + 1 + 1 + 1 + 1 by omega]
    show ms_Z L nx e V q l (4 * s) + ms_Wx nx e (V (((4 * s : Nat) : Int) / 4 + 1) (((4 * s : Nat) : Int) % 4)) q l (((4 * s : Nat) : Int) / 4 + 1) (((4 * s : Nat) : Int) % 4) L.toNat + ms_Wx nx e (V (((4 * s + 1 : Nat) : Int) / 4 + 1) (((4 * s + 1 : Nat) : Int) % 4)) q l (((4 * s + 1 : Nat) : Int) / 4 + 1) (((4 * s + 1 : Nat) : Int) % 4) L.toNat + ms_Wx nx e (V (((4 * s + 1 + 1 : Nat) : Int) / 4 + 1) (((4 * s + 1 + 1 : Nat) : Int) % 4)) q l (((4 * s + 1 + 1 : Nat) : Int) / 4 + 1) (((4 * s + 1 + 1 : Nat) : Int) % 4) L.toNat + ms_Wx nx e (V (((4 * s + 1 + 1 + 1 : Nat) : Int) / 4 + 1) (((4 * s + 1 + 1 + 1 : Nat) : Int) % 4)) q l (((4 * s + 1 + 1 + 1 : Nat) : Int) / 4 + 1) (((4 * s + 1 + 1 + 1 : Nat) : Int) % 4) L.toNat = ms_Wp L nx e V q l (s + 1) + ms_Wa nx e V q l ((s + 1 : Nat) : Int) L.toNat
    rw [show ((4 * s : Nat) : Int) / 4 = s by omega, show ((4 * s : Nat) : Int) % 4 = 0 by omega, show ((4 * s + 1 : Nat) : Int) / 4 = s by omega, show ((4 * s + 1 : Nat) : Int) % 4 = 1 by omega, show ((4 * s + 1 + 1 : Nat) : Int) / 4 = s by omega, show ((4 * s + 1 + 1 : Nat) : Int) % 4 = 2 by omega, show ((4 * s + 1 + 1 + 1 : Nat) : Int) / 4 = s by omega, show ((4 * s + 1 + 1 + 1 : Nat) : Int) % 4 = 3 by omega, show ((s + 1 : Nat) : Int) = (s : Int) + 1 by omega]
    omega
/-- the model's sum -/
def ms_U (c : Int → Int) (V : Int → Int → Int) (k : Int) : Nat → Int
  | 0 => 0
  | i + 1 => ms_U c V k i + (if (i : Int) % 4 + c (i / 4) = k then V (i / 4 + 1) (i % 4) else 0)
/-- no sentence of one letter at least leads to place 0 -/
theorem ms_W_0 {L P : Int} {nx mo : Int → Int → Int} {n : Nat} {l : Int} (h : ∀ p a, 0 ≤ p → p < P → 0 ≤ a → a < L → 1 ≤ nx p a) : ms_W L P nx mo (n + 1) 0 l = 0 := by
  have A : ∀ (V : Int → Int → Int) (p : Int), 0 ≤ p → p < P → ∀ a : Nat, (a : Int) ≤ L → ms_Wa nx mo V 0 l p a = 0 := by
    intro V p p0 p1 a
    induction a with
    | zero => intro _; rfl
    | succ a ih =>
      intro ha
      unfold ms_Wa
      rw [ih (by omega), if_neg (fun w => by have := h p a p0 p1 (by omega) (by omega); omega)]; rfl
  have B : ∀ (V : Int → Int → Int) (p : Nat), (p : Int) ≤ P → ms_Wp L nx mo V 0 l p = 0 := by
    intro V p
    induction p with
    | zero => intro _; rfl
    | succ p ih =>
      intro hp
      unfold ms_Wp
      rw [ih (by omega)]
      rcases Int.lt_or_le L 0 with z | z
      · rw [show L.toNat = 0 by omega]; rfl
      · rw [A V p (by omega) (by omega) _ (by omega)]; rfl
  show ms_Wp L nx mo _ 0 l P.toNat % 998244353 = 0
  rcases Int.lt_or_le P 0 with z | z
  · rw [show P.toNat = 0 by omega]; rfl
  · rw [B _ _ (by omega)]; rfl
/-- what the model's searches know of loops -/
def ms_E (h c L : Int) (mk : Int → Int → Int) (l : Int → Int) (F : Nat → Int → Int) (e : Int → Int → Int) : Prop := ∀ p a, 0 ≤ p → p < c + 1 → 0 ≤ a → a < L → e p a = mt_both h (mq_w (ms_S h F p)) (mk (l a)) 20 ∧ 0 ≤ e p a
/-- loops of a letter by itself -/
theorem ms_e0 {h : Int} {v : Int → Int} (h2 : 2 ≤ h) (h5 : h ≤ 5) (hv : mt_M h v) (ov : mt_ok h v) : mt_both h (mq_w (mt_str h)) v 20 = v 20 := by
  have i2 := (mt_both_p (b := v) (by omega) h5 (mt_str_M h5) hv (fun e e0 e1 => (mq_w_e h5 e e0 e1).symm : mt_eq h (mt_str h) (mq_w (mt_str h))) (by unfold mt_str mq_w; rw [if_neg (by omega), if_neg (by omega)])).2
  rw [← i2]
  exact (mt_id h2 h5 hv ov).2.1
set_option maxHeartbeats 1000000 in
theorem m_many {Q : Int → ml_St → Prop} {h told ts cap set n x : Int} {tb cl pr sz : Int → Int} {T : Int → Int → Int} {τ : ml_St} (i : IM h told ts cap tb cl pr sz T τ) (k0 : ¬ (mt_ls told (mt_mk h T sz) set ∧ 1 ≤ n ∧ n ≤ 1000 ∧ 0 ≤ x ∧ x ≤ 3) → ∀ σ, IM h told ts cap tb cl pr sz T σ → (∀ j, j < 215 → σ j = τ j) → Q (-1) σ) (k : mt_ls told (mt_mk h T sz) set → 1 ≤ n → n ≤ 1000 → 0 ≤ x → x ≤ 3 → ∀ σ L l F (c : Nat) nx e, IM h told ts cap tb cl pr sz T σ → (∀ j, j < 215 → σ j = τ j) → ms_M h told (mt_mk h T sz) set L l F c nx → ms_E h c L (mt_mk h T sz) l F e → Q (ms_U (fun s => mt_cl h (F s.toNat) cl) (ms_W L (c + 1) nx e n.toNat) x (4 * c) % 998244353) σ) : f_X12_many τ set n x Q := by
  have h2 := i.1.2.2.1
  have h5 := i.1.2.2.2.1
  unfold f_X12_many f_X12_many_u0
  unfold f_X12_many_u32
  refine s_isLetters i (fun no σ i' f _ => ⟨fun _ => k0 (fun y => no y.1) σ i' f, fun z => absurd rfl z⟩) (fun ls σ nl L hl _ => ⟨fun z => absurd z (by omega), fun _ => s_lies (fun n0 n1 _ => ⟨fun z => absurd z (by omega), fun _ => s_lies (fun x0 x1 _ => ⟨fun _ => s_joinsAll L (fun σ0 F c J0 hB hO h7 => ⟨3800, ?_⟩), fun z => absurd z (by omega)⟩) (fun z _ => ⟨fun z => absurd rfl z, fun _ => k0 (fun y => z ⟨y.2.2.2.1, y.2.2.2.2⟩) σ L.1 L.2.1⟩)⟩) (fun z _ => ⟨fun _ => k0 (fun y => z ⟨y.2.1, y.2.2.1⟩) σ L.1 L.2.1, fun z => absurd rfl z⟩)⟩)
  have kk := k ls n0 n1 x0 x1
  clear k k0
  -- the places, their loops
  have c945 := (mq_J_b J0).2.1
  have nl6 : 0 ≤ nl ∧ nl ≤ 6 := ⟨(mq_J_b J0).2.2.2.1, (mq_J_b J0).2.2.2.2.1⟩
  have hnx : ∀ p a, 0 ≤ p → p < (c : Int) + 1 → 0 ≤ a → a < nl → 1 ≤ ms_n σ0 p a ∧ ms_n σ0 p a < (c : Int) + 1 := fun p a p0 p1 a0 a1 => by
    obtain ⟨y1, y2, -⟩ := hB.2.2.2.2.1 p a p0 a0 a1 (Or.inl p1)
    exact ⟨y1, y2⟩
  generalize he : (fun p a => mt_both h (mq_w (ms_S h F p)) (mt_mk h T sz (σ 237 a)) 20) = e
  have heq : ∀ p a, e p a = mt_both h (mq_w (ms_S h F p)) (mt_mk h T sz (σ 237 a)) 20 := fun p a => by rw [← he]
  have hex : ∀ s a, 0 ≤ s → s < (c : Int) → 0 ≤ a → a < nl → σ0 241 (6 * s + a) = min (e (s + 1) a) 4 ∧ 0 ≤ e (s + 1) a := fun s a s0 s1 a0 a1 => by
    have o : σ0 241 (6 * ((s.toNat : Nat) : Int) + a) = min (mt_both h (mq_w (F s.toNat)) (mt_mk h T sz (σ 237 a)) 20) 4 := hO s.toNat a a0 a1 (by omega)
    have w := J0.2.2.2 s a s0 a0 a1 (by omega)
    rw [show ((s.toNat : Nat) : Int) = s by omega] at o
    rw [heq, ms_S_p (by omega), show (s + 1 - 1).toNat = s.toNat by omega]
    exact ⟨o, by omega⟩
  have hL : ∀ a, 0 ≤ a → a < nl → e 0 a = mt_mk h T sz (σ 237 a) 20 ∧ 0 ≤ e 0 a ∧ σ0 229 (σ0 237 a) = e 0 a := fun a a0 a1 => by
    have md := J0.1.2.2.2.2.2 a a0 a1
    obtain ⟨g1, g2, g3, g4, g5⟩ := IM_w J0.1.1 md
    have b := mq_20 (IM_cv J0.1.1 md.1 md.2.1).1 md.2.2
    rw [heq, ms_S_0, ← h7, ms_e0 h2 h5 g2 g3, g1.2.1]
    exact ⟨rfl, b.1, rfl⟩
  have hE : ms_E h c nl (mt_mk h T sz) (σ 237) F e := fun p a p0 p1 a0 a1 => by
    refine ⟨heq p a, ?_⟩
    by_cases z : p = 0
    · rw [z]; exact (hL a a0 a1).2.1
    · have := (hex (p - 1) a (by omega) (by omega) a0 a1).2
      rw [show p - 1 + 1 = p by omega] at this; exact this
  have kk := fun σ1 i1 j1 => kk σ1 nl (σ 237) F c (ms_n σ0) e i1 j1 ⟨hl, hB⟩ hE
  generalize hV : ms_W nl ((c : Int) + 1) (ms_n σ0) e = V at *
  have hVr : ∀ m p l, 0 ≤ V m p l ∧ V m p l ≤ 998244352 := fun m p l => by rw [← hV]; exact ms_W_r m p l
  have hV0 : ∀ m l, V (m + 1) 0 l = 0 := fun m l => by rw [← hV]; exact ms_W_0 (fun p a p0 p1 a0 a1 => (hnx p a p0 p1 a0 a1).1)
  have hVs : ∀ m q l, V (m + 1) q l = ms_Wp nl (ms_n σ0) e (V m) q l ((c : Int) + 1).toNat % 998244353 := fun m q l => by rw [← hV]; rfl
  have W00 : ∀ m q l, ms_Wa (ms_n σ0) e (V (m + 1)) q l 0 nl.toNat = 0 := fun m q l => by
    have : ∀ a : Nat, ms_Wa (ms_n σ0) e (V (m + 1)) q l 0 a = 0 := by
      intro a
      induction a with
      | zero => rfl
      | succ a ih => unfold ms_Wa; rw [ih, hV0]; split <;> rfl
    exact this _
  have hZ : ∀ m q l, 0 ≤ l → l < 4 → ms_Z nl (ms_n σ0) e (V (m + 1)) q l (4 * c) % 998244353 = V (m + 2) q l := fun m q l l0 l4 => by
    rw [ms_Z_4 l0 l4 (W00 m q l) c (fun p i p0 p1 i0 i1 => (hE p i p0 (by omega) i0 i1).2), hVs (m + 1), show ((c : Int) + 1).toNat = c + 1 by omega]
  -- what stays
  have U : ∀ (σ' σ1 : ml_St) (p q v : Int), p = 244 ∨ p = 245 → σ1 = ml_up σ' p q v → (∀ j, j ≠ 244 → j ≠ 245 → σ' j = σ0 j) → (∀ j, j ≠ 244 → j ≠ 245 → σ1 j = σ0 j) := fun σ' σ1 p q v hp ee f j h1 h2 => by rw [ee, ml_up_k (by omega)]; exact f j h1 h2
  have JJ : ∀ σ', (∀ j, j ≠ 244 → j ≠ 245 → σ' j = σ0 j) → mq_J h told ts cap tb cl pr sz T τ nl F c σ' := fun σ' f => mq_J_k (fun j h1 h2 => f j (by omega) (by omega)) (fun b _ => by rw [f 215 (by omega) (by omega)]) J0
  -- the sum
  have S : ∀ σ1, (∀ j, j ≠ 244 → j ≠ 245 → σ1 j = σ0 j) → (∀ s l, 0 ≤ s → s < (c : Int) → 0 ≤ l → l < 4 → σ1 244 (4 * s + l) = V n.toNat (s + 1) l) → f_X12_many_u338 Q σ1 x := by
    intro σ1 f hr
    have J := JJ σ1 f
    obtain ⟨b1, b2, b3, b4, b5, b6, b7⟩ := mq_J_b J
    have L : ∀ (N : Nat) (j : Nat), j ≤ 4 * c → 4 * c - j < N → 0 ≤ ms_U (fun s => mt_cl h (F s.toNat) cl) (V n.toNat) x j → ms_U (fun s => mt_cl h (F s.toNat) cl) (V n.toNat) x j ≤ 998244352 * j → f_X12_many_u344 Q (f_X12_many_u395 Q) N σ1 x (ms_U (fun s => mt_cl h (F s.toNat) cl) (V n.toNat) x j) j := by
      intro N
      induction N with
      | zero => intro j j1 hN; omega
      | succ N ih =>
        intro j j1 hN u0 u1
        unfold f_X12_many_u344
        rw [b1]
        have e1 : Int.tmod (j : Int) 4 = (j : Int) % 4 := Int.tmod_eq_emod_of_nonneg (by omega)
        have e2 : Int.tdiv (j : Int) 4 = (j : Int) / 4 := Int.tdiv_eq_ediv_of_nonneg (by omega)
        rw [e1, e2]
        have vr := hVr n.toNat ((j : Int) / 4 + 1) ((j : Int) % 4)
        have N1 : ∀ s1, j < 4 * c → ms_U (fun s => mt_cl h (F s.toNat) cl) (V n.toNat) x j + s1 = ms_U (fun s => mt_cl h (F s.toNat) cl) (V n.toNat) x (j + 1) → 0 ≤ s1 → s1 ≤ 998244352 → f_X12_many_u386 Q (f_X12_many_u344 Q (f_X12_many_u395 Q) N) σ1 x j (ms_U (fun s => mt_cl h (F s.toNat) cl) (V n.toNat) x j) s1 := fun s1 hj es s0 s9 => by
          unfold f_X12_many_u386
          intro y2 ey2
          rw [es, w64_id ⟨by omega, by omega⟩] at ey2
          refine ⟨mt_I (by omega) (by omega), fun y3 e3 => ?_⟩
          rw [ey2, show y3 = ((j + 1 : Nat) : Int) by omega]
          exact ih (j + 1) (by omega) (by omega) (by omega) (by omega)
        refine fun _ => ⟨mt_I (by omega) (by omega), fun q => ?_, fun q => ⟨by omega, mt_I (by omega) (by omega), by omega, mt_I (by omega) (by omega), by omega, by omega, fun _ => ?_⟩⟩
        · unfold f_X12_many_u395
          rw [Int.tmod_eq_emod_of_nonneg u0, mb_l2i2 (by omega) (by omega), show j = 4 * c by omega]
          exact ⟨by omega, kk σ1 J.1.1 J.1.2.1⟩
        · have b6' := b6 ((j : Int) / 4) (by omega) (by omega)
          obtain ⟨y1, y2, y3, y4⟩ := J.2.1.2.1 ((j : Int) / 4).toNat (by omega)
          rw [show ((((j : Int) / 4).toNat : Nat) : Int) = (j : Int) / 4 by omega] at y4
          refine ⟨mt_I (by omega) (by omega), fun z => N1 _ (by omega) ?_ (by omega) (by omega), fun z => ⟨by omega, by omega, fun _ => ?_⟩⟩
          · show _ = ms_U _ _ _ j + _
            rw [if_neg (fun z2 => z (by rw [y4]; exact z2))]
          · have v244 := hr ((j : Int) / 4) ((j : Int) % 4) (by omega) (by omega) (by omega) (by omega)
            rw [show 4 * ((j : Int) / 4) + (j : Int) % 4 = j by omega] at v244
            rw [v244]
            refine N1 _ (by omega) ?_ vr.1 vr.2
            show _ = ms_U _ _ _ j + _
            rw [if_pos (by rw [y4] at z; exact z)]
    unfold f_X12_many_u338
    exact ⟨3801, L 3801 0 (by omega) (by omega) (Int.le_refl 0) (Int.le_refl 0)⟩
  -- the rounds
  have R : ∀ (N : Nat) (t : Nat) (σ1 : ml_St), (t : Int) + 1 ≤ n → n - t < N → (∀ j, j ≠ 244 → j ≠ 245 → σ1 j = σ0 j) → (∀ s l, 0 ≤ s → s < (c : Int) → 0 ≤ l → l < 4 → σ1 244 (4 * s + l) = V (t + 1) (s + 1) l) → f_X12_many_u138 Q (f_X12_many_u338 Q) N σ1 n x ((t : Int) + 1) := by
    intro N
    induction N with
    | zero => intro t σ1 t1 hN; omega
    | succ N ih =>
      intro t σ1 t1 hN f hr
      -- copied back
      have C2 : ∀ (M : Nat) (j : Int) (σ : ml_St), 0 ≤ j → j ≤ 4 * c → 4 * c - j < M → (t : Int) + 2 ≤ n → (∀ j, j ≠ 244 → j ≠ 245 → σ j = σ0 j) → (∀ s l, 0 ≤ s → s < (c : Int) → 0 ≤ l → l < 4 → σ 245 (4 * s + l) = V (t + 2) (s + 1) l ∧ (4 * s + l < j → σ 244 (4 * s + l) = V (t + 2) (s + 1) l)) → f_X12_many_u301 Q (f_X12_many_u332 Q (f_X12_many_u138 Q (f_X12_many_u338 Q) N)) M σ n x ((t : Int) + 1) j := by
        intro M
        induction M with
        | zero => intro j σ j0 j1 hM; omega
        | succ M ihj =>
          intro j σ j0 j1 hM tt f hh
          have J := JJ σ f
          obtain ⟨b1, b2, b3, b4, b5, b6, b7⟩ := mq_J_b J
          unfold f_X12_many_u301
          rw [b1]
          refine fun _ => ⟨mt_I (by omega) (by omega), fun q => ?_, fun q => ⟨by omega, by omega, fun _ => ⟨by omega, by omega, fun σ5 s5 => ⟨mt_I (by omega) (by omega), fun y e => ?_⟩⟩⟩⟩
          · unfold f_X12_many_u332
            refine ⟨mt_I (by omega) (by omega), fun y e => ?_⟩
            rw [e, show (t : Int) + 1 + 1 = ((t + 1 : Nat) : Int) + 1 by omega]
            exact ih (t + 1) σ (by omega) (by omega) f (fun s l s0 s1 l0 l1 => (hh s l s0 s1 l0 l1).2 (by omega))
          · subst e
            refine ihj (j + 1) σ5 (by omega) (by omega) (by omega) tt (U σ σ5 _ _ _ (Or.inl rfl) s5 f) (fun s l s0 s1 l0 l1 => ⟨by rw [s5, ml_up_k (by omega)]; exact (hh s l s0 s1 l0 l1).1, fun z => ?_⟩)
            rw [s5]
            by_cases q : 4 * s + l = j
            · rw [q, ml_up_same, ← q]; exact (hh s l s0 s1 l0 l1).1
            · rw [ml_up_i q]; exact (hh s l s0 s1 l0 l1).2 (by omega)
      -- spread
      have C1 : ∀ (M : Nat) (j : Nat) (σ : ml_St), j ≤ 4 * c → 4 * c - j < M → (t : Int) + 2 ≤ n → (∀ j, j ≠ 244 → j ≠ 245 → σ j = σ0 j) → (∀ s l, 0 ≤ s → s < (c : Int) → 0 ≤ l → l < 4 → σ 244 (4 * s + l) = V (t + 1) (s + 1) l ∧ σ 245 (4 * s + l) = ms_Z nl (ms_n σ0) e (V (t + 1)) (s + 1) l j % 998244353) → f_X12_many_u175 Q (f_X12_many_u298 Q (f_X12_many_u138 Q (f_X12_many_u338 Q) N)) M σ n x ((t : Int) + 1) j := by
        intro M
        induction M with
        | zero => intro j σ j1 hM; omega
        | succ M ihj =>
          intro j σ j1 hM tt f hh
          have J := JJ σ f
          obtain ⟨b1, b2, b3, b4, b5, b6, b7⟩ := mq_J_b J
          unfold f_X12_many_u175
          rw [b1]
          refine fun _ => ⟨mt_I (by omega) (by omega), fun q => ?_, fun q => ⟨7, ?_⟩⟩
          · unfold f_X12_many_u298
            refine ⟨3801, C2 3801 0 σ (by omega) (by omega) (by omega) tt f (fun s l s0 s1 l0 l1 => ⟨?_, fun z => by omega⟩)⟩
            rw [(hh s l s0 s1 l0 l1).2, show j = 4 * c by omega, hZ t (s + 1) l l0 l1]
          have e1 : Int.tmod (j : Int) 4 = (j : Int) % 4 := Int.tmod_eq_emod_of_nonneg (by omega)
          have e2 : Int.tdiv (j : Int) 4 = (j : Int) / 4 := Int.tdiv_eq_ediv_of_nonneg (by omega)
          have jc : (j : Int) / 4 < (c : Int) := by omega
          have vr := hVr (t + 1) ((j : Int) / 4 + 1) ((j : Int) % 4)
          have vj : σ 244 j = V (t + 1) ((j : Int) / 4 + 1) ((j : Int) % 4) := by
            have := (hh ((j : Int) / 4) ((j : Int) % 4) (by omega) jc (by omega) (by omega)).1
            rw [show 4 * ((j : Int) / 4) + (j : Int) % 4 = j by omega] at this
            exact this
          have I : ∀ (M' : Nat) (l : Nat) (τ' : ml_St), (l : Int) ≤ nl → nl - l < M' → (∀ j, j ≠ 244 → j ≠ 245 → τ' j = σ0 j) → (∀ s m, 0 ≤ s → s < (c : Int) → 0 ≤ m → m < 4 → τ' 244 (4 * s + m) = V (t + 1) (s + 1) m ∧ τ' 245 (4 * s + m) = (ms_Z nl (ms_n σ0) e (V (t + 1)) (s + 1) m j + ms_Wx (ms_n σ0) e (V (t + 1) ((j : Int) / 4 + 1) ((j : Int) % 4)) (s + 1) m ((j : Int) / 4 + 1) ((j : Int) % 4) l) % 998244353) → f_X12_many_u189 Q (f_X12_many_u292 Q (f_X12_many_u175 Q (f_X12_many_u298 Q (f_X12_many_u138 Q (f_X12_many_u338 Q) N)) M)) M' τ' n x ((t : Int) + 1) j l := by
            intro M'
            induction M' with
            | zero => intro l τ' l1 hM'; omega
            | succ M' ihl =>
              intro l τ' l1 hM' f hh
              have J := JJ τ' f
              obtain ⟨b1, b2, b3, b4, b5, b6, b7⟩ := mq_J_b J
              have OUT : (∀ s m, 0 ≤ s → s < (c : Int) → 0 ≤ m → m < 4 → τ' 245 (4 * s + m) = ms_Z nl (ms_n σ0) e (V (t + 1)) (s + 1) m (j + 1) % 998244353) → f_X12_many_u292 Q (f_X12_many_u175 Q (f_X12_many_u298 Q (f_X12_many_u138 Q (f_X12_many_u338 Q) N)) M) τ' n x ((t : Int) + 1) j := fun hz => by
                unfold f_X12_many_u292
                refine ⟨mt_I (by omega) (by omega), fun y e => ?_⟩
                have e : y = ((j + 1 : Nat) : Int) := by omega
                subst e
                exact ihj (j + 1) τ' (by omega) (by omega) tt f (fun s m s0 s1 m0 m1 => ⟨(hh s m s0 s1 m0 m1).1, hz s m s0 s1 m0 m1⟩)
              have vj' : τ' 244 j = V (t + 1) ((j : Int) / 4 + 1) ((j : Int) % 4) := by
                have := (hh ((j : Int) / 4) ((j : Int) % 4) (by omega) jc (by omega) (by omega)).1
                rw [show 4 * ((j : Int) / 4) + (j : Int) % 4 = j by omega] at this
                exact this
              unfold f_X12_many_u189
              rw [b3, e1, e2, vj']
              refine fun _ => ⟨fun q => OUT (fun s m s0 s1 m0 m1 => ?_), fun q3 => ⟨by omega, by omega, fun _ => ⟨fun q => OUT (fun s m s0 s1 m0 m1 => ?_), fun _ => ⟨by omega, mt_I (by omega) (by omega), by omega, mt_I (by omega) (by omega), mt_I (by omega) (by omega), mt_I (by omega) (by omega), by omega, by omega, ?_⟩⟩⟩⟩
              · rw [(hh s m s0 s1 m0 m1).2, show l = nl.toNat by omega]; rfl
              · have v0 : V (t + 1) ((j : Int) / 4 + 1) ((j : Int) % 4) = 0 := by omega
                rw [(hh s m s0 s1 m0 m1).2, v0, ms_Wx_0]
                show _ = (ms_Z nl (ms_n σ0) e (V (t + 1)) (s + 1) m j + ms_Wx (ms_n σ0) e (V (t + 1) ((j : Int) / 4 + 1) ((j : Int) % 4)) (s + 1) m ((j : Int) / 4 + 1) ((j : Int) % 4) nl.toNat) % 998244353
                rw [v0, ms_Wx_0]
              obtain ⟨w1, w2, w3, w4⟩ := J.2.2.2 ((j : Int) / 4) l (by omega) (by omega) (by omega) (by omega)
              obtain ⟨x1', x2'⟩ := hex ((j : Int) / 4) l (by omega) jc (by omega) (by omega)
              have f241 : τ' 241 = σ0 241 := f 241 (by omega) (by omega)
              have f240 : τ' 240 = σ0 240 := f 240 (by omega) (by omega)
              have en : ms_n σ0 ((j : Int) / 4 + 1) l = τ' 240 (6 * ((j : Int) / 4) + l) + 1 := by
                unfold ms_n
                rw [if_neg (by omega), show 6 * ((j : Int) / 4 + 1 - 1) + (l : Int) = 6 * ((j : Int) / 4) + l by omega, f240]
              rw [← f241] at x1'
              have NX : ∀ τ1, (l : Int) < nl → (∀ j, j ≠ 244 → j ≠ 245 → τ1 j = σ0 j) → (∀ s m, 0 ≤ s → s < (c : Int) → 0 ≤ m → m < 4 → τ1 244 (4 * s + m) = V (t + 1) (s + 1) m ∧ τ1 245 (4 * s + m) = (ms_Z nl (ms_n σ0) e (V (t + 1)) (s + 1) m j + ms_Wx (ms_n σ0) e (V (t + 1) ((j : Int) / 4 + 1) ((j : Int) % 4)) (s + 1) m ((j : Int) / 4 + 1) ((j : Int) % 4) (l + 1)) % 998244353) → f_X12_many_u286 Q (f_X12_many_u189 Q (f_X12_many_u292 Q (f_X12_many_u175 Q (f_X12_many_u298 Q (f_X12_many_u138 Q (f_X12_many_u338 Q) N)) M)) M') τ1 n x ((t : Int) + 1) j l := fun τ1 ll f hh => by
                unfold f_X12_many_u286
                refine ⟨mt_I (by omega) (by omega), fun y e => ?_⟩
                have e : y = ((l + 1 : Nat) : Int) := by omega
                subst e
                exact ihl (l + 1) τ1 (by omega) (by omega) f hh
              refine fun _ => ⟨mt_I (by omega) (by omega), fun y11 e11 => ⟨by omega, mt_I (by omega) (by omega), mt_I (by omega) (by omega), mt_I (by omega) (by omega), by omega, by omega, fun _ => ⟨mt_I (by omega) (by omega), mt_I (by omega) (by omega), fun y18 e18 => ⟨fun q4 => NX τ' (by omega) f (fun s m s0 s1 m0 m1 => ⟨(hh s m s0 s1 m0 m1).1, ?_⟩), fun q4 => ⟨by omega, by omega, fun _ => ⟨by omega, by omega, fun _ => ⟨by omega, by omega, by omega, fun σ24 s24 => NX σ24 (by omega) (U τ' σ24 _ _ _ (Or.inr rfl) s24 f) (fun s m s0 s1 m0 m1 => ⟨?_, ?_⟩)⟩⟩⟩⟩⟩⟩⟩
              · rw [(hh s m s0 s1 m0 m1).2]
                rw [ms_Wx_s, if_neg (fun w => by omega), Int.add_zero]
              · rw [s24, ml_up_k (by omega)]; exact (hh s m s0 s1 m0 m1).1
              · rw [s24]
                have ey : y18 = 4 * τ' 240 (6 * ((j : Int) / 4) + l) + y11 := e18
                have y245 := (hh (τ' 240 (6 * ((j : Int) / 4) + l)) y11 w1 w2 (by omega) (by omega)).2
                rw [← ey] at y245
                rw [ms_Wx_s]
                by_cases z : 4 * s + m = y18
                · have zs : s = τ' 240 (6 * ((j : Int) / 4) + l) := by omega
                  have zm : m = y11 := by omega
                  have zr := ms_Z_r (L := nl) (nx := ms_n σ0) (e := e) (V := V (t + 1)) (q := s + 1) (l := m) (fun p l => (hVr (t + 1) p l).1) j
                  have xr := ms_Wx_r (nx := ms_n σ0) (e := e) (q := s + 1) (l := m) (p := (j : Int) / 4 + 1) (m := (j : Int) % 4) vr.1 l
                  rw [z, ml_up_same, y245, ← zs, ← zm, if_pos ⟨by omega, by omega⟩]
                  generalize ms_Z nl (ms_n σ0) e (V (t + 1)) (s + 1) m j = zz at *
                  generalize ms_Wx (ms_n σ0) e (V (t + 1) ((j : Int) / 4 + 1) ((j : Int) % 4)) (s + 1) m ((j : Int) / 4 + 1) ((j : Int) % 4) l = xx at *
                  generalize V (t + 1) ((j : Int) / 4 + 1) ((j : Int) % 4) = vv at *
                  rw [w64_id ⟨by omega, by omega⟩, Int.tmod_eq_emod_of_nonneg (by omega)]
                  omega
                · rw [ml_up_i z, (hh s m s0 s1 m0 m1).2, if_neg (fun w => z (by omega)), Int.add_zero]
          exact I 7 0 σ (by omega) (by omega) f (fun s m s0 s1 m0 m1 => ⟨(hh s m s0 s1 m0 m1).1, by rw [(hh s m s0 s1 m0 m1).2]; show _ = (_ + (0 : Int)) % _; rw [Int.add_zero]⟩)
      -- the new row is emptied
      have C0 : ∀ (M : Nat) (j : Int) (σ : ml_St), 0 ≤ j → j ≤ 4 * c → 4 * c - j < M → (t : Int) + 2 ≤ n → (∀ j, j ≠ 244 → j ≠ 245 → σ j = σ0 j) → (∀ s l, 0 ≤ s → s < (c : Int) → 0 ≤ l → l < 4 → σ 244 (4 * s + l) = V (t + 1) (s + 1) l ∧ (4 * s + l < j → σ 245 (4 * s + l) = 0)) → f_X12_many_u147 Q (f_X12_many_u172 Q (f_X12_many_u138 Q (f_X12_many_u338 Q) N)) M σ n x ((t : Int) + 1) j := by
        intro M
        induction M with
        | zero => intro j σ j0 j1 hM; omega
        | succ M ihj =>
          intro j σ j0 j1 hM tt f hh
          have J := JJ σ f
          obtain ⟨b1, b2, b3, b4, b5, b6, b7⟩ := mq_J_b J
          unfold f_X12_many_u147
          rw [b1]
          refine fun _ => ⟨mt_I (by omega) (by omega), fun q => ?_, fun q => ⟨by omega, by omega, fun σ4 s4 => ⟨mt_I (by omega) (by omega), fun y e => ?_⟩⟩⟩
          · unfold f_X12_many_u172
            exact ⟨3801, C1 3801 0 σ (by omega) (by omega) tt f (fun s l s0 s1 l0 l1 => ⟨(hh s l s0 s1 l0 l1).1, (hh s l s0 s1 l0 l1).2 (by omega)⟩)⟩
          · subst e
            refine ihj (j + 1) σ4 (by omega) (by omega) (by omega) tt (U σ σ4 _ _ _ (Or.inr rfl) s4 f) (fun s l s0 s1 l0 l1 => ⟨by rw [s4, ml_up_k (by omega)]; exact (hh s l s0 s1 l0 l1).1, fun z => ?_⟩)
            rw [s4]
            by_cases q : 4 * s + l = j
            · rw [q, ml_up_same]
            · rw [ml_up_i q]; exact (hh s l s0 s1 l0 l1).2 (by omega)
      unfold f_X12_many_u138
      have b2 := (mq_J_b (JJ σ1 f)).2.1
      refine ⟨fun q => S σ1 f ?_, fun q => ⟨3801, C0 3801 0 σ1 (by omega) (by omega) (by omega) (by omega) f (fun s l s0 s1 l0 l1 => ⟨hr s l s0 s1 l0 l1, fun z => by omega⟩)⟩⟩
      rw [show n.toNat = t + 1 by omega]; exact hr
  -- the first row
  have one : ∀ q l, ms_W nl ((c : Int) + 1) (ms_n σ0) e 1 q l = ms_Wa (ms_n σ0) e (fun p l => if p = 0 ∧ l = 0 then 1 else 0) q l 0 nl.toNat := fun q l => by
    have A : ∀ (p : Int), p ≠ 0 → ∀ a : Nat, ms_Wa (ms_n σ0) e (fun p l => if p = 0 ∧ l = 0 then (1 : Int) else 0) q l p a = 0 := by
      intro p p0 a
      induction a with
      | zero => rfl
      | succ a ih =>
        unfold ms_Wa
        rw [ih]
        split
        · show (0 : Int) + (if p = 0 ∧ _ = 0 then (1 : Int) else 0) = 0; rw [if_neg (fun w => p0 w.1)]; rfl
        · rfl
    have B : ∀ p : Nat, ms_Wp nl (ms_n σ0) e (fun p l => if p = 0 ∧ l = 0 then (1 : Int) else 0) q l (p + 1) = ms_Wa (ms_n σ0) e (fun p l => if p = 0 ∧ l = 0 then 1 else 0) q l 0 nl.toNat := by
      intro p
      induction p with
      | zero => show (0 : Int) + _ = _; rw [Int.zero_add]; rfl
      | succ p ih =>
        show ms_Wp nl (ms_n σ0) e _ q l (p + 1) + ms_Wa (ms_n σ0) e _ q l ((p + 1 : Nat) : Int) nl.toNat = _
        rw [ih, A ((p + 1 : Nat) : Int) (by omega), Int.add_zero]
    have C := ms_Wa_r (nx := ms_n σ0) (mo := e) (V := fun p l => if p = 0 ∧ l = 0 then (1 : Int) else 0) (q := q) (l := l) (p := 0)
    have D : 0 ≤ ms_Wa (ms_n σ0) e (fun p l => if p = 0 ∧ l = 0 then (1 : Int) else 0) q l 0 nl.toNat ∧ ms_Wa (ms_n σ0) e (fun p l => if p = 0 ∧ l = 0 then (1 : Int) else 0) q l 0 nl.toNat ≤ nl.toNat := by
      have : ∀ a : Nat, 0 ≤ ms_Wa (ms_n σ0) e (fun p l => if p = 0 ∧ l = 0 then (1 : Int) else 0) q l 0 a ∧ ms_Wa (ms_n σ0) e (fun p l => if p = 0 ∧ l = 0 then (1 : Int) else 0) q l 0 a ≤ a := by
        intro a
        induction a with
        | zero => exact ⟨Int.le_refl 0, Int.le_refl 0⟩
        | succ a ih =>
          unfold ms_Wa
          split
          · have : 0 ≤ (fun (p l : Int) => if p = 0 ∧ l = 0 then (1 : Int) else 0) 0 (l - e 0 a) ∧ (fun (p l : Int) => if p = 0 ∧ l = 0 then (1 : Int) else 0) 0 (l - e 0 a) ≤ 1 := by dsimp only; split <;> omega
            omega
          · omega
      exact this _
    show ms_Wp nl (ms_n σ0) e (fun q l => if q = 0 ∧ l = 0 then 1 else 0) q l ((c : Int) + 1).toNat % 998244353 = _
    rw [show ((c : Int) + 1).toNat = c + 1 by omega, B c, Int.emod_eq_of_lt D.1 (by omega)]
  have A2 : ∀ (N : Nat) (l : Nat) (σ1 : ml_St), (l : Int) ≤ nl → nl - l < N → (∀ j, j ≠ 244 → j ≠ 245 → σ1 j = σ0 j) → (∀ s m, 0 ≤ s → s < (c : Int) → 0 ≤ m → m < 4 → σ1 244 (4 * s + m) = ms_Wa (ms_n σ0) e (fun p l => if p = 0 ∧ l = 0 then 1 else 0) (s + 1) m 0 l ∧ 0 ≤ σ1 244 (4 * s + m) ∧ σ1 244 (4 * s + m) ≤ l) → f_X12_many_u69 Q (f_X12_many_u135 Q) N σ1 n x l := by
    intro N
    induction N with
    | zero => intro l σ1 l1 hN; omega
    | succ N ih =>
      intro l σ1 l1 hN f hh
      have J := JJ σ1 f
      obtain ⟨b1, b2, b3, b4, b5, b6, b7⟩ := mq_J_b J
      have NX : ∀ σ1, (l : Int) < nl → (∀ j, j ≠ 244 → j ≠ 245 → σ1 j = σ0 j) → (∀ s m, 0 ≤ s → s < (c : Int) → 0 ≤ m → m < 4 → σ1 244 (4 * s + m) = ms_Wa (ms_n σ0) e (fun p l => if p = 0 ∧ l = 0 then 1 else 0) (s + 1) m 0 (l + 1) ∧ 0 ≤ σ1 244 (4 * s + m) ∧ σ1 244 (4 * s + m) ≤ ((l + 1 : Nat) : Int)) → f_X12_many_u129 Q (f_X12_many_u69 Q (f_X12_many_u135 Q) N) σ1 n x l := fun σ1 ll f hh => by
        unfold f_X12_many_u129
        refine ⟨mt_I (by omega) (by omega), fun y e => ?_⟩
        have e : y = ((l + 1 : Nat) : Int) := by omega
        subst e
        exact ih (l + 1) σ1 (by omega) (by omega) f hh
      unfold f_X12_many_u69
      rw [b3]
      refine fun _ => ⟨fun q => ?_, fun q => ⟨by omega, by omega, fun _ => ?_⟩⟩
      · unfold f_X12_many_u135
        have r := R 1001 0 σ1 (by omega) (by omega) f (fun s m s0 s1 m0 m1 => by
          rw [(hh s m s0 s1 m0 m1).1, show l = nl.toNat by omega, ← one, hV])
        exact ⟨1001, r⟩
      obtain ⟨w1, w2, w3, w4, w5⟩ := b7 l (by omega) (by omega)
      obtain ⟨y1, y2, y3⟩ := hL l (by omega) (by omega)
      have f229 : σ1 229 (σ1 237 l) = e 0 l := by rw [f 229 (by omega) (by omega), f 237 (by omega) (by omega)]; exact y3
      have en : ms_n σ0 0 l = σ1 242 l + 1 := by unfold ms_n; rw [if_pos rfl, f 242 (by omega) (by omega)]
      rw [f229]
      refine ⟨w1, by omega, fun _ => ⟨fun c4 => NX σ1 (by omega) f (fun s m s0 s1 m0 m1 => ?_), fun q2 => ?_⟩⟩
      · obtain ⟨u1, u2, u3⟩ := hh s m s0 s1 m0 m1
        refine ⟨?_, u2, by omega⟩
        rw [ms_Wa_s, if_neg (fun w => by omega), Int.add_zero]; exact u1
      rw [mb_l2i2 (by omega) (by omega)]
      refine ⟨by omega, by omega, fun _ => ⟨mt_I (by omega) (by omega), by omega, by omega, fun _ => ⟨w1, by omega, fun _ => ⟨mt_I (by omega) (by omega), by omega, by omega, fun _ => ⟨by omega, by omega, fun σ13 s13 => NX σ13 (by omega) (U σ1 σ13 _ _ _ (Or.inl rfl) s13 f) (fun s m s0 s1 m0 m1 => ?_)⟩⟩⟩⟩⟩
      obtain ⟨u1, u2, u3⟩ := hh s m s0 s1 m0 m1
      obtain ⟨v1, v2, v3⟩ := hh (σ1 242 l) (e 0 l) w4 w5 y2 (by omega)
      rw [ms_Wa_s]
      rw [s13]
      by_cases z : 4 * s + m = 4 * σ1 242 l + e 0 l
      · have zs : s = σ1 242 l := by omega
        have zm : m = e 0 l := by omega
        rw [z, ml_up_same, w64_id ⟨by omega, by omega⟩, if_pos ⟨by omega, by omega⟩]
        show _ = _ + (if (0 : Int) = 0 ∧ m - e 0 l = 0 then (1 : Int) else 0) ∧ _
        rw [if_pos ⟨rfl, by omega⟩]
        subst zs; subst zm
        exact ⟨by rw [v1], by omega, by omega⟩
      · rw [ml_up_i z]
        refine ⟨?_, u2, by omega⟩
        by_cases y : ms_n σ0 0 l = s + 1 ∧ e 0 l ≤ m
        · rw [if_pos y]
          show _ = _ + (if (0 : Int) = 0 ∧ m - e 0 l = 0 then (1 : Int) else 0)
          rw [if_neg (fun w => z (by omega)), Int.add_zero]; exact u1
        · rw [if_neg y, Int.add_zero]; exact u1
  have A1 : ∀ (N : Nat) (j : Int) (σ1 : ml_St), 0 ≤ j → j ≤ 4 * c → 4 * c - j < N → (∀ j, j ≠ 244 → j ≠ 245 → σ1 j = σ0 j) → (∀ s m, 0 ≤ s → s < (c : Int) → 0 ≤ m → m < 4 → 4 * s + m < j → σ1 244 (4 * s + m) = 0) → f_X12_many_u41 Q (f_X12_many_u66 Q) N σ1 n x j := by
    intro N
    induction N with
    | zero => intro j σ1 j0 j1 hN; omega
    | succ N ih =>
      intro j σ1 j0 j1 hN f hh
      obtain ⟨b1, b2, b3, b4, b5, b6, b7⟩ := mq_J_b (JJ σ1 f)
      unfold f_X12_many_u41
      rw [b1]
      refine fun _ => ⟨mt_I (by omega) (by omega), fun q => ?_, fun q => ⟨by omega, by omega, fun σ4 s4 => ⟨mt_I (by omega) (by omega), fun y e => ?_⟩⟩⟩
      · unfold f_X12_many_u66
        refine ⟨7, A2 7 0 σ1 (by omega) (by omega) f (fun s m s0 s1 m0 m1 => ?_)⟩
        rw [hh s m s0 s1 m0 m1 (by omega)]
        exact ⟨rfl, Int.le_refl 0, Int.le_refl 0⟩
      · subst e
        refine ih (j + 1) σ4 (by omega) (by omega) (by omega) (U σ1 σ4 _ _ _ (Or.inl rfl) s4 f) (fun s m s0 s1 m0 m1 z => ?_)
        rw [s4]
        by_cases q : 4 * s + m = j
        · rw [q, ml_up_same]
        · rw [ml_up_i q]; exact hh s m s0 s1 m0 m1 (by omega)
  have := A1 3800 0 σ0 (by omega) (by omega) (by omega) (fun _ _ _ => rfl) (fun s m s0 s1 m0 m1 z => by omega)
  exact this
