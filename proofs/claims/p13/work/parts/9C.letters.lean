/-! the model: letters, states and what joins them -/
/-- what stays true in a search: what is kept between calls, the class's objects, nl letters -/
def mq_L (h told ts cap : Int) (tb cl pr sz : Int → Int) (T : Int → Int → Int) (τ0 : ml_St) (nl : Int) (σ : ml_St) : Prop := IM h told ts cap tb cl pr sz T σ ∧ (∀ j, j < 215 → σ j = τ0 j) ∧ σ 215 38 = nl ∧ 0 ≤ nl ∧ nl ≤ 6 ∧ ∀ i, 0 ≤ i → i < nl → mt_md told (mt_mk h T sz) (σ 237 i)
theorem mq_L_k {h told ts cap nl : Int} {tb cl pr sz : Int → Int} {T : Int → Int → Int} {τ0 σ σ' : ml_St} (q : mt_kq σ σ') (e1 : σ' 215 38 = σ 215 38) (e2 : σ' 237 = σ 237) (i : mq_L h told ts cap tb cl pr sz T τ0 nl σ) : mq_L h told ts cap tb cl pr sz T τ0 nl σ' := by
  obtain ⟨i1, i2, i3, i4, i5, i6⟩ := i
  exact ⟨IM_kq q i1, fun j hj => by rw [q.2.2.2 j hj, i2 j hj], by rw [e1, i3], i4, i5, by rw [e2]; exact i6⟩
theorem mq_L_mf {h told ts cap nl c : Int} {tb cl pr sz : Int → Int} {T : Int → Int → Int} {τ0 σ σ' : ml_St} (c16 : 16 ≤ c) (q : mt_mf c σ σ') (i : mq_L h told ts cap tb cl pr sz T τ0 nl σ) : mq_L h told ts cap tb cl pr sz T τ0 nl σ' := mq_L_k (mt_kq_mf c16 q) (q.2.1 38 (by omega)) (q.1 237 (by omega) (by omega) (by omega) (by omega) (by omega) (by omega) (by omega)) i
theorem s_has {Q : Int → ml_St → Prop} {x w : Int} {σ : ml_St} (k1 : mb_t x w = 1 → Q 1 σ) (k0 : mb_t x w = 0 → Q 0 σ) : f_X12_has σ x w Q := by
  unfold f_X12_has f_X12_has_u0 f_X12_has_u14
  refine ⟨fun c => k0 ?_, fun c => k1 c⟩
  rcases mb_t_01 x w with h | h
  · exact h
  · exact absurd h c
theorem s_isLetters {Q : Int → ml_St → Prop} {h told ts cap set : Int} {tb cl pr sz : Int → Int} {T : Int → Int → Int} {τ0 : ml_St} (i : IM h told ts cap tb cl pr sz T τ0) (k0 : ∀ σ, IM h told ts cap tb cl pr sz T σ → (∀ j, j < 215 → σ j = τ0 j) → Q 0 σ) (k1 : ∀ σ nl, mq_L h told ts cap tb cl pr sz T τ0 nl σ → Q 1 σ) : f_X12_isLetters τ0 set Q := by
  obtain ⟨a1, a2, h2, h5, t0, t16⟩ := i.1
  have L : ∀ (N : Nat) (w n : Int) (σ : ml_St), 0 ≤ w → w ≤ told → told - w < N → 0 ≤ n → n ≤ 6 → IM h told ts cap tb cl pr sz T σ → (∀ j, j < 215 → σ j = τ0 j) → (∀ i, 0 ≤ i → i < n → mt_md told (mt_mk h T sz) (σ 237 i)) → f_X12_isLetters_u24 Q (f_X12_isLetters_u57 Q) (f_X12_isLetters_u75 Q) N σ set n w := by
    intro N
    induction N with
    | zero => intro w n σ w0 w1 hN; omega
    | succ N ih =>
      intro w n σ w0 w1 hN n0 n6 i' f l
      have U : ∀ n σ, 0 ≤ n → n ≤ 6 → IM h told ts cap tb cl pr sz T σ → (∀ j, j < 215 → σ j = τ0 j) → (∀ i, 0 ≤ i → i < n → mt_md told (mt_mk h T sz) (σ 237 i)) → w < told → f_X12_isLetters_u69 Q (f_X12_isLetters_u24 Q (f_X12_isLetters_u57 Q) (f_X12_isLetters_u75 Q) N) σ set n w := by
        intro n σ n0 n6 i' f l wt
        unfold f_X12_isLetters_u69
        refine ⟨mt_I (by omega) (by omega), fun y e => ?_⟩
        subst e
        exact ih (w + 1) n σ (by omega) (by omega) (by omega) n0 n6 i' f l
      unfold f_X12_isLetters_u24
      rw [i'.1.2.1]
      refine fun _ => ⟨fun c => ?_, fun c => s_has (fun _ _ => ⟨fun _ => ?_, fun z => absurd z (by omega)⟩) (fun _ _ => ⟨fun z => absurd rfl z, fun _ => U n σ n0 n6 i' f l (by omega)⟩)⟩
      · unfold f_X12_isLetters_u75
        intro σ1 s1
        refine k1 σ1 n ⟨IM_kq (mt_kq_o (fun j hj => by rw [s1, ml_up_k (by omega)]) (fun b b1 b2 => by rw [s1, ml_up_i (by omega)])) i', fun j hj => by rw [s1, ml_up_k (by omega), f j hj], by rw [s1, ml_up_same], n0, n6, fun i i0 i1 => by rw [s1, ml_up_k (by omega)]; exact l i i0 i1⟩
      have wt : w < told := by omega
      obtain ⟨c1, c2, c3, c4⟩ := IM_cv i' w0 wt
      have nn := (i'.2.2.2.2 w w0 wt).2.1
      refine s_isTooLong12 w0 (by omega) nn.1 nn.2 c3 c4 (fun q _ => ⟨fun _ => ?_, fun z => absurd z (by omega)⟩) (fun q _ => ⟨fun z => absurd rfl z, fun _ => ⟨fun n6' => ⟨n0, by omega, fun σ8 s8 => ⟨mt_I (by omega) (by omega), fun y e => ?_⟩⟩, fun _ => ?_⟩⟩)
      · unfold f_X12_isLetters_u57; exact k0 σ i' f
      · subst e
        refine U (n + 1) σ8 (by omega) (by omega) (IM_kq (mt_kq_o (fun j hj => by rw [s8, ml_up_k (by omega)]) (fun b b1 b2 => by rw [s8, ml_up_k (by omega)])) i') (fun j hj => by rw [s8, ml_up_k (by omega), f j hj]) (fun i i0 i1 => ?_) wt
        rw [s8]
        by_cases z : i = n
        · rw [z, ml_up_same]; exact ⟨w0, wt, (mt_cv_23 c1).2 (by omega)⟩
        · rw [ml_up_i z]; exact l i i0 (by omega)
      · unfold f_X12_isLetters_u57; exact k0 σ i' f
  unfold f_X12_isLetters f_X12_isLetters_u0
  rw [a2]
  have es := mb_shl (r := told.toNat) (by omega)
  rw [show ((told.toNat : Nat) : Int) = told by omega] at es
  have pb : ((2 ^ told.toNat : Nat) : Int) ≤ 65536 := by
    have := Nat.pow_le_pow_right (show 0 < 2 by omega) (show told.toNat ≤ 16 by omega)
    omega
  have pc : 0 ≤ ((2 ^ told.toNat : Nat) : Int) := Int.natCast_nonneg _
  rw [es]
  exact fun _ => ⟨⟨by omega, by omega⟩, s_lies (fun _ _ _ => ⟨fun _ => ⟨20, L 20 0 0 τ0 (by omega) t0 (by omega) (by omega) (by omega) i (fun _ _ => rfl) (fun i i0 i1 => absurd i1 (by omega))⟩, fun z => absurd z (by omega)⟩) (fun _ _ => ⟨fun z => absurd rfl z, fun _ => k0 τ0 i (fun _ _ => rfl)⟩)⟩
/-- the states: different matchings -/
def mq_s (h : Int) (cl : Int → Int) (F : Nat → Int → Int) (c : Nat) (σ : ml_St) : Prop := σ 215 39 = c ∧ (∀ i : Nat, i < c → mt_M h (F i) ∧ σ 238 i = mt_cd h (F i) ∧ (∀ e, 0 ≤ e → e < 2 * h → σ 239 (10 * i + e) = F i e) ∧ σ 243 i = mt_cl h (F i) cl) ∧ ∀ i j : Nat, i < j → j < c → ¬ mt_eq h (F i) (F j)
theorem mq_s_le {h : Int} {cl : Int → Int} {F : Nat → Int → Int} {c : Nat} {σ : ml_St} (h2 : 2 ≤ h) (h5 : h ≤ 5) (s : mq_s h cl F c σ) : c ≤ 945 := by
  by_cases q : c ≤ 945
  · exact q
  · obtain ⟨i, j, hij, hj, e⟩ := mt_ph 945 (fun i => (mt_num h (F i) : Int)) (fun i hi => ⟨by show (0:Int) ≤ _; omega, by have := mt_num_lt h2 h5 (s.2.1 i (by omega)).1; show ((mt_num h (F i) : Nat) : Int) < 945; omega⟩)
    have e : ((mt_num h (F i) : Nat) : Int) = mt_num h (F j) := e
    exact absurd (mt_num_inj h2 h5 (s.2.1 i (by omega)).1 (s.2.1 j (by omega)).1 (by omega)) (s.2.2 i j hij (by omega))
theorem mq_s_k {h : Int} {cl : Int → Int} {F : Nat → Int → Int} {c : Nat} {σ σ' : ml_St} (e1 : σ' 215 39 = σ 215 39) (e2 : σ' 238 = σ 238) (e3 : σ' 239 = σ 239) (e4 : σ' 243 = σ 243) (s : mq_s h cl F c σ) : mq_s h cl F c σ' := by
  unfold mq_s; rw [e1, e2, e3, e4]; exact s
theorem mt_cl_r {h : Int} {α β : Int → Int} (h2 : 0 ≤ h) (h5 : h ≤ 5) (ha : mt_M h α) (hb : mt_M h β) : 0 ≤ mt_cl h α β ∧ mt_cl h α β ≤ 10 := by
  have := mt_lbs_C h5 ha hb (2 * h).toNat (by omega)
  unfold mt_cl; omega
theorem mb_i2b10 {x : Int} (h0 : 0 ≤ x) (h1 : x < 10) : b_i2b x = x := by
  have k : ∀ n : Nat, n < 10 → b_i2b (n : Int) = n := by decide +kernel
  have := k x.toNat (by omega)
  rw [show ((x.toNat : Nat) : Int) = x by omega] at this
  exact this
theorem s_stateOf {Q : Int → ml_St → Prop} {m h : Int} {cl f : Int → Int} {F : Nat → Int → Int} {c : Nat} {σ0 : ml_St} (h2 : 2 ≤ h) (h5 : h ≤ 5) (r : 0 ≤ m ∧ m < 64) (th : σ0 215 2 = h) (hf : mt_M h f) (ra : ∀ e, 0 ≤ e → e < 2 * h → σ0 227 (10 * m + e) = f e) (hc : mt_M h cl) (jv : mt_jv h σ0 cl) (s : mq_s h cl F c σ0) (k : ∀ σ (n c' : Nat) (F' : Nat → Int → Int), (∀ j, j ≠ 215 → j ≠ 234 → j ≠ 238 → j ≠ 239 → j ≠ 243 → σ j = σ0 j) → (∀ b, b ≠ 39 → σ 215 b = σ0 215 b) → mq_s h cl F' c' σ → c ≤ c' → (∀ i, i < c → F' i = F i) → n < c' → mt_eq h (F' n) f → I32 n → Q n σ) : f_X12_stateOf σ0 m Q := by
  have hc0 := mq_s_le h2 h5 s
  obtain ⟨s1, s2, s3⟩ := id s
  have NEW : (∀ i, i < c → ¬ mt_eq h (F i) f) → f_X12_stateOf_u39 Q σ0 m (mt_cd h f) := by
    intro nf
    have F1 : ∀ i, i < c → (fun i => if i = c then f else F i) i = F i := fun i hi => by dsimp only; rw [if_neg (by omega)]
    have F2 : (fun i => if i = c then f else F i) c = f := by dsimp only; rw [if_pos rfl]
    generalize hF : (fun i => if i = c then f else F i) = F' at F1 F2
    have d' : ∀ i j : Nat, i < j → j < c + 1 → ¬ mt_eq h (F' i) (F' j) := fun i j ij jc => by
      by_cases z : j = c
      · rw [z, F2, F1 i (by omega)]; exact nf i (by omega)
      · rw [F1 i (by omega), F1 j (by omega)]; exact s3 i j ij (by omega)
    have le : c + 1 ≤ 945 := by
      by_cases q : c + 1 ≤ 945
      · exact q
      · have M' : ∀ i, i < c + 1 → mt_M h (F' i) := fun i hi => by
          by_cases z : i = c
          · rw [z, F2]; exact hf
          · rw [F1 i (by omega)]; exact (s2 i (by omega)).1
        obtain ⟨i, j, hij, hj, e⟩ := mt_ph 945 (fun i => (mt_num h (F' i) : Int)) (fun i hi => ⟨by show (0:Int) ≤ _; omega, by have := mt_num_lt h2 h5 (M' i (by omega)); show ((mt_num h (F' i) : Nat) : Int) < 945; omega⟩)
        have e : ((mt_num h (F' i) : Nat) : Int) = mt_num h (F' j) := e
        exact absurd (mt_num_inj h2 h5 (M' i (by omega)) (M' j (by omega)) (by omega)) (d' i j hij (by omega))
    unfold f_X12_stateOf_u39
    rw [s1]
    refine fun _ => ⟨by omega, by omega, fun σ2 t2 => ⟨11, ?_⟩⟩
    have L : ∀ (N : Nat) (e : Int) (σ : ml_St), 0 ≤ e → e ≤ 2 * h → 2 * h - e < N → (∀ j, j ≠ 239 → σ j = σ2 j) → (∀ q : Int, (q < 10 * c ∨ 10 * c + 10 ≤ q) → σ 239 q = σ0 239 q) → (∀ e', 0 ≤ e' → e' < e → σ 239 (10 * c + e') = f e') → f_X12_stateOf_u52 Q (f_X12_stateOf_u97 Q) N σ m e := by
      intro N
      induction N with
      | zero => intro e σ e0 e1 hN; omega
      | succ N ih =>
        intro e σ e0 e1 hN g lo hi
        have e39 : σ 215 39 = c := by rw [g 215 (by omega), t2, ml_up_k (by omega), s1]
        have e2 : σ 215 2 = h := by rw [g 215 (by omega), t2, ml_up_k (by omega), th]
        unfold f_X12_stateOf_u52
        rw [e39, e2]
        refine fun _ => ⟨mt_I (by omega) (by omega), fun q => ?_, fun q _ => ⟨mt_I (by omega) (by omega), mt_I (by omega) (by omega), mt_I (by omega) (by omega), mt_I (by omega) (by omega), by omega, by omega, fun _ => ⟨by omega, by omega, fun σ10 s10 => ⟨mt_I (by omega) (by omega), fun y ey => ?_⟩⟩⟩⟩
        · unfold f_X12_stateOf_u97
          rw [e39]
          have a227 : σ 227 = σ0 227 := by rw [g 227 (by omega), t2, ml_up_k (by omega)]
          have jv' : mt_jv h σ cl := by unfold mt_jv; rw [g 215 (by omega), g 217 (by omega), t2, ml_up_k (by omega), ml_up_k (by omega)]; exact jv
          refine fun _ => s_closing h2 h5 r e2 hf hc (fun e e0 e1 => by rw [a227]; exact ra e e0 e1) jv' (fun τ' f' _ => ⟨by omega, by omega, fun σ3 s3' => ?_⟩)
          have b3 : σ3 215 39 = c := by rw [s3', ml_up_k (by omega), f' 215 (by omega), e39]
          rw [b3]
          refine fun _ => ⟨mt_I (by omega) (by omega), fun σ6 s6 => ?_⟩
          have b6 : σ6 215 39 = c + 1 := by rw [s6, ml_up_same]
          rw [b6]
          refine fun _ => ⟨mt_I (by omega) (by omega), ?_⟩
          rw [show (c : Int) + 1 - 1 = c by omega]
          have fr : ∀ j, j ≠ 215 → j ≠ 234 → j ≠ 238 → j ≠ 239 → j ≠ 243 → σ6 j = σ0 j := fun j h1 h2 h3 h4 h5 => by rw [s6, ml_up_k h1, s3', ml_up_k h5, f' j h2, g j h4, t2, ml_up_k h3]
          refine k σ6 c (c + 1) F' fr (fun b hb => by rw [s6, ml_up_i hb, s3', ml_up_k (by omega), f' 215 (by omega), g 215 (by omega), t2, ml_up_k (by omega)]) ⟨by rw [b6]; omega, fun i ii => ?_, d'⟩ (by omega) F1 (by omega) (by rw [F2]; exact fun _ _ _ => rfl) (mt_I (by omega) (by omega))
          have e238 : σ6 238 = σ2 238 := by rw [s6, ml_up_k (by omega), s3', ml_up_k (by omega), f' 238 (by omega), g 238 (by omega)]
          have e239 : σ6 239 = σ 239 := by rw [s6, ml_up_k (by omega), s3', ml_up_k (by omega), f' 239 (by omega)]
          have e243 : σ6 243 = σ3 243 := by rw [s6, ml_up_k (by omega)]
          rw [e238, e239, e243]
          by_cases z : i = c
          · rw [z, F2]
            exact ⟨hf, by rw [t2, ml_up_same], fun e e0 e1 => hi e e0 (by omega), by rw [s3', ml_up_same]⟩
          · rw [F1 i (by omega)]
            obtain ⟨y1, y2, y3, y4⟩ := s2 i (by omega)
            refine ⟨y1, by rw [t2, ml_up_i (by omega), y2], fun e e0 e1 => ?_, ?_⟩
            · rw [lo _ (by omega)]; exact y3 e e0 e1
            · rw [s3', ml_up_i (by omega), f' 243 (by omega), g 243 (by omega), t2, ml_up_k (by omega), y4]
        · have a227 : σ 227 (10 * m + e) = f e := by rw [g 227 (by omega), t2, ml_up_k (by omega)]; exact ra e e0 (by omega)
          have fe := hf e e0 (by omega)
          rw [a227, mb_i2b10 fe.1 (by omega)] at s10
          subst ey
          refine ih (e + 1) σ10 (by omega) (by omega) (by omega) (fun j hj => by rw [s10, ml_up_k hj, g j hj]) (fun q hq => by rw [s10, ml_up_i (by omega)]; exact lo q hq) (fun e' e0' e1' => ?_)
          rw [s10]
          by_cases z : e' = e
          · rw [z, ml_up_same]
          · rw [ml_up_i (by omega)]; exact hi e' e0' (by omega)
    exact L 11 0 σ2 (by omega) (by omega) (by omega) (fun _ _ => rfl) (fun q _ => by rw [t2, ml_up_k (by omega)]) (fun e' h1 h2 => absurd h2 (by omega))
  have L : ∀ (N : Nat) (i : Nat), i ≤ c → c - i < N → (∀ j, j < i → ¬ mt_eq h (F j) f) → f_X12_stateOf_u9 Q (f_X12_stateOf_u30 Q) (f_X12_stateOf_u39 Q) N σ0 m (mt_cd h f) i := by
    intro N
    induction N with
    | zero => intro i i1 hN; omega
    | succ N ih =>
      intro i i1 hN nf
      unfold f_X12_stateOf_u9
      rw [s1]
      refine fun _ => ⟨fun q => NEW (fun j hj => nf j (by omega)), fun q => ⟨by omega, by omega, ?_⟩⟩
      obtain ⟨y1, y2, y3, y4⟩ := s2 i (by omega)
      rw [y2]
      refine fun _ => ⟨fun ne => ⟨mt_I (by omega) (by omega), fun y e => ?_⟩, fun e => ?_⟩
      · have e : y = ((i + 1 : Nat) : Int) := by omega
        subst e
        refine ih (i + 1) (by omega) (by omega) (fun j hj => ?_)
        by_cases z : j = i
        · rw [z]; exact fun e => ne ((mt_cd_iff (by omega) h5 y1 hf).2 e)
        · exact nf j (by omega)
      · unfold f_X12_stateOf_u30
        exact k σ0 i c F (fun _ _ _ _ _ _ => rfl) (fun _ _ => rfl) s (Nat.le_refl c) (fun _ _ => rfl) (by omega) ((mt_cd_iff (by omega) h5 y1 hf).1 e) (mt_I (by omega) (by omega))
  unfold f_X12_stateOf f_X12_stateOf_u0
  exact s_codeOf h2 h5 r th hf ra (fun _ => ⟨c + 1, L (c + 1) 0 (by omega) (by omega) (fun j hj => absurd hj (by omega))⟩)
