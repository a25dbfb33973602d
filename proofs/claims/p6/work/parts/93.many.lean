/-! the class: many, made -/
theorem ic_G_k {h told : Int} {σ σ' : ml_St} (e0 : ∀ b, b ≠ 11 → σ' 55 b = σ 55 b) (r0 : 0 ≤ σ' 55 11) (r1 : σ' 55 11 ≤ 1000) (e : ∀ j, (j = 56 ∨ j = 57 ∨ j = 58 ∨ j = 59 ∨ j = 61) → σ' j = σ j) (g : ic_G h told σ) : ic_G h told σ' := by
  unfold ic_G at g ⊢
  rw [e0 1 (by omega), e0 2 (by omega), e 56 (by omega), e 57 (by omega), e 58 (by omega), e 59 (by omega), e 61 (by omega)]
  obtain ⟨g1, g2, g3, g4, g5, g6, g7, g8, g9, g10⟩ := g
  exact ⟨g1, g2, g3, g4, g5, g6, g7, g8, r0, r1⟩
theorem ic_X_k {h told : Int} {mk : Int → Int → Int} {σ σ' : ml_St} (e0 : ∀ b, b ≠ 11 → σ' 55 b = σ 55 b) (e : ∀ j, (j = 56 ∨ j = 57 ∨ j = 58 ∨ j = 59 ∨ j = 61) → σ' j = σ j) (w : ic_W σ') (x : ic_X h told mk σ) : ic_X h told mk σ' := by
  obtain ⟨x1, ⟨S, x2⟩, x3⟩ := x
  refine ⟨?_, ⟨S, ?_⟩, w⟩
  · rw [e0 0 (by omega), e0 1 (by omega), e 56 (by omega)]; exact x1
  · unfold ic_Y at *
    rw [e0 1 (by omega), e0 2 (by omega), e 56 (by omega), e 57 (by omega), e 58 (by omega), e 59 (by omega), e 61 (by omega)]; exact x2
theorem s_closeAll {Q : ml_St → Prop} {h told frm i : Int} {mk S : Int → Int → Int} {cl : Int → Int} {σ0 : ml_St} (h2 : 2 ≤ h) (h5 : h ≤ 5) (g : ic_G h told σ0) (Y : ic_Y h mk frm i S σ0) (hc : mt_M h cl) (ec : mt_eq h (σ0 5) cl) (k : ∀ σ, (∀ j, j ≠ 60 → j ≠ 65 → σ j = σ0 j) → (∀ p, 0 ≤ p → p < σ0 55 2 → 0 ≤ σ 60 p ∧ σ 60 p ≤ 10) → (∀ p, 0 ≤ p → p < σ0 55 2 → σ 60 p = mt_cl h (S p) cl) → Q σ) : f_X7_closeAll σ0 h Q := by
  obtain ⟨g1, g2, g3, g4, g5, g6, g7, g8, g9, g10⟩ := g
  obtain ⟨⟨y1, y2, y3, y4, y5, y6⟩, y7, y8, y9, y10⟩ := Y
  have L : ∀ (N : Nat) (p : Int) (σ : ml_St), 0 ≤ p → p ≤ σ0 55 2 → σ0 55 2 - p < N → (∀ j, j ≠ 60 → j ≠ 65 → σ j = σ0 j) → (∀ q, 0 ≤ q → q < p → 0 ≤ σ 60 q ∧ σ 60 q ≤ 10) → (∀ q, 0 ≤ q → q < p → σ 60 q = mt_cl h (S q) cl) → f_X7_closeAll_u2 Q (f_X7_closeAll_u52 Q) N σ h p := by
    intro N
    induction N with
    | zero => intro p σ p0 p1 hN; omega
    | succ N ih =>
      intro p σ p0 p1 hN f hq hx
      unfold f_X7_closeAll_u2
      unfold f_X7_closeAll_u52
      rw [f 55 (by omega) (by omega)]
      refine fun _ => ⟨fun _ => k σ f (fun q q0 q1 => hq q q0 (by omega)) (fun q q0 q1 => hx q q0 (by omega)), fun c => ⟨mt_I (by omega) (by omega), by omega, by omega, by omega, by omega, by omega, fun σ4 s4 => ?_⟩⟩
      have v1 := y3 p p0 (by omega)
      have e65 : mt_eq h (σ4 (64 + 1)) (S p) := fun e e0 e1 => by
        rw [s4, mt_cpy2, if_pos ⟨by omega, e0, by omega⟩, show p * 10 + (e - 0) = 10 * p + e by omega, f 61 (by omega) (by omega)]
        exact y8 p e p0 (by omega) e0 e1
      refine s_loopsBy h2 h5 v1 hc e65 (fun e e0 e1 => by rw [s4, mt_cpy_k (by omega), f 5 (by omega) (by omega)]; exact ec e e0 e1) ?_
      have cb := mt_lbs_C (α := S p) (β := cl) h5 v1 hc (2 * h).toNat (by omega)
      have c0 : 0 ≤ mt_cl h (S p) cl ∧ mt_cl h (S p) cl ≤ 10 := ⟨cb.2.1, by have := cb.2.2.1; unfold mt_cl; omega⟩
      refine fun _ => ⟨p0, by omega, fun σ6 s6 => ⟨mt_I (by omega) (by omega), fun y e => ?_⟩⟩
      subst e
      refine ih (p + 1) σ6 (by omega) (by omega) (by omega) (fun j h1 h3 => by rw [s6, ml_up_k h1, s4, mt_cpy_k h3, f j h1 h3]) (fun q q0 q1 => ?_) (fun q q0 q1 => ?_)
      · rw [s6]
        by_cases z : q = p
        · rw [z, ml_up_same]; exact c0
        · rw [ml_up_i z, s4, mt_cpy_k (by omega)]; exact hq q q0 (by omega)
      · rw [s6]
        by_cases z : q = p
        · rw [z, ml_up_same]
        · rw [ml_up_i z, s4, mt_cpy_k (by omega)]; exact hx q q0 (by omega)
  unfold f_X7_closeAll f_X7_closeAll_u0
  exact ⟨950, L 950 0 σ0 (by omega) (by omega) (by omega) (fun _ _ _ => rfl) (fun q q0 q1 => absurd q1 (by omega)) (fun q q0 q1 => absurd q1 (by omega))⟩
/-- letters, places and where they lead -/
def mt_nx (L P : Int) (σ : ml_St) : Prop := σ 55 1 = L ∧ σ 55 2 = P ∧ ∀ p i, 0 ≤ p → p < P → 0 ≤ i → i < L → 1 ≤ σ 58 (6 * p + i) ∧ σ 58 (6 * p + i) < P ∧ 0 ≤ σ 59 (6 * p + i) ∧ σ 59 (6 * p + i) ≤ 3
theorem mb_l2i3 {x : Int} (h0 : -2147483648 ≤ x) (h1 : x ≤ 2147483647) : b_l2i x = x := by
  unfold b_l2i
  rw [Int64.toInt32_ofInt, Int32.toInt_ofInt, Int.bmod_def, show ((Int32.size : Nat) : Int) = 4294967296 from rfl]
  split <;> omega
/-- counts, in their ranges -/
theorem ms_Wa_r {nx mo V : Int → Int → Int} {q l p : Int} (v : ∀ l', 0 ≤ l' → l' ≤ l → 0 ≤ V p l' ∧ V p l' ≤ 998244352) : ∀ a : Nat, (∀ i : Int, 0 ≤ i → i < a → 0 ≤ mo p i) → 0 ≤ ms_Wa nx mo V q l p a ∧ ms_Wa nx mo V q l p a ≤ 998244352 * a := by
  intro a
  induction a with
  | zero => intro _; exact ⟨Int.le_refl 0, Int.le_refl 0⟩
  | succ a ih =>
    intro h
    have i := ih (fun i i0 i1 => h i i0 (by omega))
    have m := h a (by omega) (by omega)
    unfold ms_Wa
    by_cases z : nx p a = q ∧ mo p a ≤ l
    · rw [if_pos z]
      have := v (l - mo p a) (by omega) (by omega)
      omega
    · rw [if_neg z]; omega
theorem ms_Wa_c {nx mo V V' : Int → Int → Int} {q l p : Int} (v : ∀ l', 0 ≤ l' → l' ≤ l → V p l' = V' p l') : ∀ a : Nat, (∀ i : Int, 0 ≤ i → i < a → 0 ≤ mo p i) → ms_Wa nx mo V q l p a = ms_Wa nx mo V' q l p a := by
  intro a
  induction a with
  | zero => intro _; rfl
  | succ a ih =>
    intro h
    have m := h a (by omega) (by omega)
    unfold ms_Wa
    rw [ih (fun i i0 i1 => h i i0 (by omega))]
    by_cases z : nx p a = q ∧ mo p a ≤ l
    · rw [if_pos z, if_pos z, v (l - mo p a) (by omega) (by omega)]
    · rw [if_neg z, if_neg z]
theorem ms_Wp_c {L : Int} {nx mo V V' : Int → Int → Int} {q l : Int} : ∀ p : Nat, (∀ p', 0 ≤ p' → p' < p → ∀ l', 0 ≤ l' → l' ≤ l → V p' l' = V' p' l') → (∀ p' i, 0 ≤ p' → p' < p → 0 ≤ i → i < L → 0 ≤ mo p' i) → ms_Wp L nx mo V q l p = ms_Wp L nx mo V' q l p := by
  intro p
  induction p with
  | zero => intro _ _; rfl
  | succ p ih =>
    intro h m
    unfold ms_Wp
    rw [ih (fun p' a b => h p' a (by omega)) (fun p' i a b => m p' i a (by omega)), ms_Wa_c (fun l' a b => h p (by omega) (by omega) l' a b) _ (fun i i0 i1 => m p i (by omega) (by omega) i0 (by omega))]
theorem ms_W_r {L P : Int} {nx mo : Int → Int → Int} (n : Nat) (q l : Int) : 0 ≤ ms_W L P nx mo n q l ∧ ms_W L P nx mo n q l ≤ 998244352 := by
  cases n with
  | zero => show 0 ≤ (if q = 0 ∧ l = 0 then (1 : Int) else 0) ∧ (if q = 0 ∧ l = 0 then (1 : Int) else 0) ≤ 998244352; split <;> omega
  | succ n => show 0 ≤ ms_Wp L nx mo (ms_W L P nx mo n) q l P.toNat % 998244353 ∧ ms_Wp L nx mo (ms_W L P nx mo n) q l P.toNat % 998244353 ≤ 998244352; omega
set_option maxHeartbeats 1000000 in
theorem s_spread {Q : ml_St → Prop} {L P f : Int} {σ0 : ml_St} (L1 : 1 ≤ L) (L6 : L ≤ 6) (P1 : P ≤ 946) (n : mt_nx L P σ0) (f0 : 0 ≤ f) (f1 : f < P) (v : ∀ l, 0 ≤ l → l < 3 → 0 ≤ σ0 62 (3 * f + l) ∧ σ0 62 (3 * f + l) ≤ 998244352) (A : ∀ q l, 0 ≤ q → q < P → 0 ≤ l → l < 3 → 0 ≤ σ0 63 (3 * q + l) ∧ σ0 63 (3 * q + l) ≤ 5989466112 * f) (k : ∀ σ, (∀ j, j ≠ 63 → σ j = σ0 j) → (∀ q l, 0 ≤ q → q < P → 0 ≤ l → l < 3 → σ 63 (3 * q + l) = σ0 63 (3 * q + l) + ms_Wa (fun p a => σ0 58 (6 * p + a)) (fun p a => σ0 59 (6 * p + a)) (fun p l => σ0 62 (3 * p + l)) q l f L.toNat) → Q σ) : f_X7_spread σ0 f Q := by
  obtain ⟨n1, n2, n3⟩ := n
  have O : ∀ (N : Nat) (i : Nat) (σ : ml_St), (i : Int) ≤ L → L - i < N → (∀ j, j ≠ 63 → σ j = σ0 j) → (∀ q l, 0 ≤ q → q < P → 0 ≤ l → l < 3 → σ 63 (3 * q + l) = σ0 63 (3 * q + l) + ms_Wa (fun p a => σ0 58 (6 * p + a)) (fun p a => σ0 59 (6 * p + a)) (fun p l => σ0 62 (3 * p + l)) q l f i) → f_X7_spread_u5 Q (f_X7_spread_u85 Q) N σ f (f * 6 + i) := by
    intro N
    induction N with
    | zero => intro i σ i1 hN; omega
    | succ N ih =>
      intro i σ i1 hN fr hA
      unfold f_X7_spread_u5
      unfold f_X7_spread_u85
      rw [fr 55 (by omega), n1]
      refine ⟨mt_I (by omega) (by omega), fun _ => ⟨mt_I (by omega) (by omega), fun c => k σ fr ?_, fun c => ⟨by omega, by omega, ?_⟩⟩⟩
      · rw [show L.toNat = i by omega]; exact hA
      obtain ⟨m1, m2, m3, m4⟩ := n3 f i f0 f1 (by omega) (by omega)
      rw [show 6 * f + (i : Int) = f * 6 + i by omega] at m1 m2 m3 m4
      rw [fr 58 (by omega), fr 59 (by omega)]
      refine fun _ => ⟨mt_I (by omega) (by omega), by omega, by omega, fun _ => ⟨mt_I (by omega) (by omega), fun y9 e9 => ⟨10, ?_⟩⟩⟩
      have I : ∀ (M : Nat) (x : Int) (τ : ml_St), 0 ≤ x → x ≤ 3 → 3 - x < M → (∀ j, j ≠ 63 → τ j = σ0 j) → (∀ q l, 0 ≤ q → q < P → 0 ≤ l → l < 3 → τ 63 (3 * q + l) = σ 63 (3 * q + l) + (if σ0 58 (f * 6 + i) = q ∧ σ0 59 (f * 6 + i) ≤ l ∧ l < σ0 59 (f * 6 + i) + x then σ0 62 (3 * f + (l - σ0 59 (f * 6 + i))) else 0)) → f_X7_spread_u37 Q (f_X7_spread_u79 Q (f_X7_spread_u5 Q (f_X7_spread_u85 Q) N)) M τ f (f * 6 + i) y9 x := by
        intro M
        induction M with
        | zero => intro x σ x0 x1 hM; omega
        | succ M ihM =>
          intro x τ x0 x1 hM fr hB
          unfold f_X7_spread_u37
          rw [fr 59 (by omega)]
          refine ⟨by omega, by omega, fun _ => ⟨mt_I (by omega) (by omega), fun c3 => ?_, fun c3 => ⟨mt_I (by omega) (by omega), by omega, by omega, fun _ => ⟨mt_I (by omega) (by omega), mt_I (by omega) (by omega), by omega, by omega, fun _ => ⟨by omega, by omega, fun σ10 s10 => ⟨mt_I (by omega) (by omega), fun y e => ?_⟩⟩⟩⟩⟩⟩
          · unfold f_X7_spread_u79
            refine ⟨mt_I (by omega) (by omega), fun y e => ?_⟩
            have e : y = f * 6 + ((i + 1 : Nat) : Int) := by omega
            subst e
            refine ih (i + 1) τ (by omega) (by omega) fr (fun q l q0 q1 l0 l1 => ?_)
            rw [hB q l q0 q1 l0 l1, hA q l q0 q1 l0 l1]
            show _ = σ0 63 (3 * q + l) + (ms_Wa _ _ _ q l f i + if σ0 58 (6 * f + i) = q ∧ σ0 59 (6 * f + i) ≤ l then σ0 62 (3 * f + (l - σ0 59 (6 * f + i))) else 0)
            rw [show 6 * f + (i : Int) = f * 6 + i by omega]
            by_cases z : σ0 58 (f * 6 + i) = q ∧ σ0 59 (f * 6 + i) ≤ l
            · rw [if_pos ⟨z.1, z.2, by omega⟩, if_pos z]; omega
            · rw [if_neg (fun w => z ⟨w.1, w.2.1⟩), if_neg z]; omega
          · have hv := v x x0 (by omega)
            have hA' := hA (σ0 58 (f * 6 + i)) (σ0 59 (f * 6 + i) + x) (by omega) m2 (by omega) (by omega)
            have hA0 := A (σ0 58 (f * 6 + i)) (σ0 59 (f * 6 + i) + x) (by omega) m2 (by omega) (by omega)
            have wr := ms_Wa_r (nx := fun p a => σ0 58 (6 * p + a)) (mo := fun p a => σ0 59 (6 * p + a)) (V := fun p l => σ0 62 (3 * p + l)) (q := σ0 58 (f * 6 + i)) (l := σ0 59 (f * 6 + i) + x) (p := f) (fun l' a b => v l' a (by omega)) i (fun j j0 j1 => (n3 f j f0 f1 j0 (by omega)).2.2.1)
            have hB' := hB (σ0 58 (f * 6 + i)) (σ0 59 (f * 6 + i) + x) (by omega) m2 (by omega) (by omega)
            rw [if_neg (by omega)] at hB'
            have e1 : y9 + x = 3 * σ0 58 (f * 6 + i) + (σ0 59 (f * 6 + i) + x) := by omega
            rw [e1, fr 62 (by omega), show f * 3 + x = 3 * f + x by omega, w64_id ⟨by omega, by omega⟩] at s10
            subst e
            refine ihM (x + 1) σ10 (by omega) (by omega) (by omega) (fun j hj => by rw [s10, ml_up_k hj, fr j hj]) (fun q l q0 q1 l0 l1 => ?_)
            rw [s10]
            by_cases z : 3 * q + l = 3 * σ0 58 (f * 6 + i) + (σ0 59 (f * 6 + i) + x)
            · have zq : q = σ0 58 (f * 6 + i) := by omega
              have zl : l = σ0 59 (f * 6 + i) + x := by omega
              rw [z, ml_up_same, if_pos ⟨zq.symm, by omega, by omega⟩, hB', show l - σ0 59 (f * 6 + i) = x by omega]; omega
            · rw [ml_up_i z, hB q l q0 q1 l0 l1]
              by_cases z2 : σ0 58 (f * 6 + i) = q ∧ σ0 59 (f * 6 + i) ≤ l ∧ l < σ0 59 (f * 6 + i) + x
              · rw [if_pos z2, if_pos ⟨z2.1, z2.2.1, by omega⟩]
              · rw [if_neg z2, if_neg (fun w => z2 ⟨w.1, w.2.1, by omega⟩)]
      exact I 10 0 σ (by omega) (by omega) (by omega) fr (fun q l q0 q1 l0 l1 => by rw [if_neg (fun w => by omega)]; omega)
  unfold f_X7_spread f_X7_spread_u0
  refine ⟨mt_I (by omega) (by omega), fun y e => ⟨10, ?_⟩⟩
  have := O 10 0 σ0 (by omega) (by omega) (fun _ _ => rfl) (fun q l _ _ _ _ => by show _ = _ + (0 : Int); omega)
  rw [show f * 6 + ((0 : Nat) : Int) = f * 6 by omega] at this
  rw [e]; exact this
theorem s_lengthenRow {Q : ml_St → Prop} {L P : Int} {V : Int → Int → Int} {σ0 : ml_St} (L1 : 1 ≤ L) (L6 : L ≤ 6) (P0 : 1 ≤ P) (P1 : P ≤ 946) (n : mt_nx L P σ0) (v : ∀ p l, 0 ≤ p → p < P → 0 ≤ l → l < 3 → 0 ≤ V p l ∧ V p l ≤ 998244352 ∧ σ0 62 (3 * p + l) = V p l) (k : ∀ σ, (∀ j, j ≠ 62 → j ≠ 63 → σ j = σ0 j) → (∀ q l, 0 ≤ q → q < P → 0 ≤ l → l < 3 → σ 62 (3 * q + l) = ms_Wp L (fun p a => σ0 58 (6 * p + a)) (fun p a => σ0 59 (6 * p + a)) V q l P.toNat % 998244353) → Q σ) : f_X7_lengthenRow σ0 Q := by
  have nk : ∀ σ : ml_St, (∀ j, j ≠ 62 → j ≠ 63 → σ j = σ0 j) → mt_nx L P σ := fun σ f => by
    unfold mt_nx; rw [f 55 (by omega) (by omega), f 58 (by omega) (by omega), f 59 (by omega) (by omega)]; exact n
  have nk' := n.2.2
  have L2 : ∀ (N : Nat) (p : Int) (σ : ml_St), 0 ≤ p → p ≤ P * 3 → P * 3 - p < N → (∀ j, j ≠ 62 → j ≠ 63 → σ j = σ0 j) → (∀ q l, 0 ≤ q → q < P → 0 ≤ l → l < 3 → σ 63 (3 * q + l) = ms_Wp L (fun p a => σ0 58 (6 * p + a)) (fun p a => σ0 59 (6 * p + a)) V q l P.toNat ∧ 0 ≤ σ 63 (3 * q + l)) → (∀ q l, 0 ≤ q → q < P → 0 ≤ l → l < 3 → 3 * q + l < p → σ 62 (3 * q + l) = ms_Wp L (fun p a => σ0 58 (6 * p + a)) (fun p a => σ0 59 (6 * p + a)) V q l P.toNat % 998244353) → f_X7_lengthenRow_u31 Q (f_X7_lengthenRow_u63 Q) N σ p := by
    intro N
    induction N with
    | zero => intro p σ p0 p1 hN; omega
    | succ N ih =>
      intro p σ p0 p1 hN f h63 h62
      unfold f_X7_lengthenRow_u31
      unfold f_X7_lengthenRow_u63
      rw [(nk σ f).2.1]
      refine fun _ => ⟨mt_I (by omega) (by omega), fun _ => k σ f (fun q l q0 q1 l0 l1 => h62 q l q0 q1 l0 l1 (by omega)), fun c => ⟨p0, by omega, fun _ => ⟨by omega, p0, by omega, fun σ6 s6 => ⟨mt_I (by omega) (by omega), fun y e => ?_⟩⟩⟩⟩
      subst e
      have ep : p = 3 * (p / 3) + p % 3 := by omega
      obtain ⟨x1, x2⟩ := h63 (p / 3) (p % 3) (by omega) (by omega) (by omega) (by omega)
      rw [← ep] at x1 x2
      rw [Int.tmod_eq_emod_of_nonneg x2, x1] at s6
      refine ih (p + 1) σ6 (by omega) (by omega) (by omega) (fun j h1 h2 => by rw [s6, ml_up_k h1, f j h1 h2]) (fun q l q0 q1 l0 l1 => by rw [s6, ml_up_k (by omega)]; exact h63 q l q0 q1 l0 l1) (fun q l q0 q1 l0 l1 ql => ?_)
      rw [s6]
      by_cases z : 3 * q + l = p
      · have zq : q = p / 3 := by omega
        have zl : l = p % 3 := by omega
        rw [z, ml_up_same, zq, zl]
      · rw [ml_up_i z]; exact h62 q l q0 q1 l0 l1 (by omega)
  have L0 : ∀ (N : Nat) (p : Nat) (σ : ml_St), (p : Int) ≤ P → P - p < N → (∀ j, j ≠ 63 → σ j = σ0 j) → (∀ q l, 0 ≤ q → q < P → 0 ≤ l → l < 3 → σ 63 (3 * q + l) = ms_Wp L (fun p a => σ0 58 (6 * p + a)) (fun p a => σ0 59 (6 * p + a)) V q l p ∧ 0 ≤ σ 63 (3 * q + l) ∧ σ 63 (3 * q + l) ≤ 5989466112 * p) → f_X7_lengthenRow_u10 Q (f_X7_lengthenRow_u29 Q) N σ p := by
    intro N
    induction N with
    | zero => intro p σ p1 hN; omega
    | succ N ih =>
      intro p σ p1 hN f h63
      unfold f_X7_lengthenRow_u10
      have nσ := nk σ (fun j _ h2 => f j h2)
      rw [nσ.2.1]
      refine fun _ => ⟨fun c => ?_, fun c => s_spread L1 L6 P1 nσ (by omega) (by omega) (fun l l0 l1 => ?_) (fun q l q0 q1 l0 l1 => (h63 q l q0 q1 l0 l1).2) (fun σ3 f3 h3 => ⟨mt_I (by omega) (by omega), fun y e => ?_⟩)⟩
      · unfold f_X7_lengthenRow_u29
        exact ⟨3000, L2 3000 0 σ (by omega) (by omega) (by omega) (fun j _ h2 => f j h2) (fun q l q0 q1 l0 l1 => by
          obtain ⟨x1, x2, x3⟩ := h63 q l q0 q1 l0 l1
          rw [show P.toNat = p by omega]; exact ⟨x1, x2⟩) (fun q l q0 q1 l0 l1 z => by omega)⟩
      · rw [f 62 (by omega)]
        obtain ⟨x1, x2, x3⟩ := v p l (by omega) (by omega) l0 l1
        rw [x3]; exact ⟨x1, x2⟩
      · have e : y = ((p + 1 : Nat) : Int) := by omega
        subst e
        refine ih (p + 1) σ3 (by omega) (by omega) (fun j h2 => by rw [f3 j h2, f j h2]) (fun q l q0 q1 l0 l1 => ?_)
        obtain ⟨x1, x2, x3⟩ := h63 q l q0 q1 l0 l1
        have wa := h3 q l q0 q1 l0 l1
        rw [f 58 (by omega), f 59 (by omega), f 62 (by omega)] at wa
        have ec := ms_Wa_c (nx := fun p a => σ0 58 (6 * p + a)) (mo := fun p a => σ0 59 (6 * p + a)) (V := fun p l => σ0 62 (3 * p + l)) (V' := V) (q := q) (l := l) (p := p) (fun l' a b => (v p l' (by omega) (by omega) a (by omega)).2.2) L.toNat (fun i i0 i1 => (nk' p i (by omega) (by omega) i0 (by omega)).2.2.1)
        have er := ms_Wa_r (nx := fun p a => σ0 58 (6 * p + a)) (mo := fun p a => σ0 59 (6 * p + a)) (V := V) (q := q) (l := l) (p := p) (fun l' a b => by have := v p l' (by omega) (by omega) a (by omega); omega) L.toNat (fun i i0 i1 => (nk' p i (by omega) (by omega) i0 (by omega)).2.2.1)
        rw [ec] at wa
        refine ⟨?_, by omega, by omega⟩
        unfold ms_Wp
        rw [wa, x1]
  unfold f_X7_lengthenRow f_X7_lengthenRow_u0
  refine s_fill64 (by omega) (fun σ1 f1 z1 => ⟨950, ?_⟩)
  refine L0 950 0 σ1 (by omega) (by omega) f1 (fun q l q0 q1 l0 l1 => ?_)
  rw [z1 _ (by omega) (by omega)]
  exact ⟨rfl, by omega, by omega⟩
/-- of those that leave k loops, closed -/
def ms_T (c : Int → Int) (V : Int → Int → Int) (k : Int) : Nat → Int
  | 0 => 0
  | i + 1 => ms_T c V k i + (if (i : Int) % 3 + c (i / 3) = k then V (i / 3) (i % 3) else 0)
theorem s_howMany7 {Q : Int → ml_St → Prop} {L P n x : Int} {c : Int → Int} {σ0 : ml_St} (L1 : 1 ≤ L) (L6 : L ≤ 6) (P0 : 1 ≤ P) (P1 : P ≤ 946) (nx : mt_nx L P σ0) (W : ic_W σ0) (n0 : 1 ≤ n) (n1 : n ≤ 1000) (r0 : 0 ≤ σ0 55 11) (r1 : σ0 55 11 ≤ 1000) (cl : ∀ p, 0 ≤ p → p < P → 0 ≤ σ0 60 p ∧ σ0 60 p ≤ 10) (ce : ∀ p, 0 ≤ p → p < P → σ0 60 p = c p) (k : ∀ σ, (∀ j, j ≠ 55 → j ≠ 62 → j ≠ 63 → σ j = σ0 j) → (∀ b, b ≠ 11 → σ 55 b = σ0 55 b) → 0 ≤ σ 55 11 → σ 55 11 ≤ 1000 → ic_W σ → Q (ms_T c (ms_W L P (fun p a => σ0 58 (6 * p + a)) (fun p a => σ0 59 (6 * p + a)) n.toNat) x (3 * P).toNat % 998244353) σ) : f_X7_howMany σ0 n x Q := by
  have mo0 := nx.2.2
  have WI : ∀ σ : ml_St, (∀ j, j ≠ 55 → j ≠ 62 → j ≠ 63 → σ j = σ0 j) → (∀ b, b ≠ 11 → σ 55 b = σ0 55 b) → (ic_W σ ↔ ∀ p l, 0 ≤ p → p < P → 0 ≤ l → l < 3 → σ 62 (3 * p + l) = ms_W L P (fun p a => σ0 58 (6 * p + a)) (fun p a => σ0 59 (6 * p + a)) (σ 55 11).toNat p l) := fun σ f fb => by
    unfold ic_W
    rw [fb 1 (by omega), fb 2 (by omega), f 58 (by omega) (by omega) (by omega), f 59 (by omega) (by omega) (by omega), nx.1, nx.2.1]
  have U : ∀ σ : ml_St, (∀ j, j ≠ 55 → j ≠ 62 → j ≠ 63 → σ j = σ0 j) → (∀ b, b ≠ 11 → σ 55 b = σ0 55 b) → σ 55 11 = n → ic_W σ → f_X7_howMany_u37 Q σ x := by
    intro σ f fb q0 hW
    have hR := (WI σ f fb).1 hW
    rw [q0] at hR
    have S : ∀ (N : Nat) (p : Nat), (p : Int) ≤ P * 3 → P * 3 - p < N → 0 ≤ ms_T c (ms_W L P (fun p a => σ0 58 (6 * p + a)) (fun p a => σ0 59 (6 * p + a)) n.toNat) x p ∧ ms_T c (ms_W L P (fun p a => σ0 58 (6 * p + a)) (fun p a => σ0 59 (6 * p + a)) n.toNat) x p ≤ 998244352 * p → f_X7_howMany_u42 Q (f_X7_howMany_u87 Q) N σ x (ms_T c (ms_W L P (fun p a => σ0 58 (6 * p + a)) (fun p a => σ0 59 (6 * p + a)) n.toNat) x p) p := by
      intro N
      induction N with
      | zero => intro p p1 hN; omega
      | succ N ih =>
        intro p p1 hN hb
        have td : Int.tdiv (p : Int) 3 = (p : Int) / 3 := Int.tdiv_eq_ediv_of_nonneg (by omega)
        have tm : Int.tmod (p : Int) 3 = (p : Int) % 3 := Int.tmod_eq_emod_of_nonneg (by omega)
        have nxt : ∀ s, (p : Int) < P * 3 → s = ms_T c (ms_W L P (fun p a => σ0 58 (6 * p + a)) (fun p a => σ0 59 (6 * p + a)) n.toNat) x (p + 1) → 0 ≤ s → s ≤ 998244352 * ((p + 1 : Nat) : Int) → f_X7_howMany_u81 Q (f_X7_howMany_u42 Q (f_X7_howMany_u87 Q) N) σ x s p := by
          intro s hp es s0 s1
          unfold f_X7_howMany_u81
          refine ⟨mt_I (by omega) (by omega), fun y e => ?_⟩
          have e : y = ((p + 1 : Nat) : Int) := by omega
          rw [e, es]
          exact ih (p + 1) (by omega) (by omega) (by rw [← es]; exact ⟨s0, s1⟩)
        unfold f_X7_howMany_u42
        unfold f_X7_howMany_u87
        rw [fb 2 (by omega), nx.2.1, td, tm, f 60 (by omega) (by omega) (by omega)]
        refine fun _ => ⟨mt_I (by omega) (by omega), fun c9 => ⟨by omega, ?_⟩, fun c9 => ?_⟩
        · rw [Int.tmod_eq_emod_of_nonneg hb.1, mb_l2i3 (by omega) (by omega)]
          have := k σ f fb (by omega) (by omega) hW
          rw [show (3 * P).toNat = p by omega] at this
          exact this
        have cp := cl ((p : Int) / 3) (by omega) (by omega)
        have ep := ce ((p : Int) / 3) (by omega) (by omega)
        refine ⟨by omega, mt_I (by omega) (by omega), by omega, mt_I (by omega) (by omega), by omega, by omega, fun _ => ⟨mt_I (by omega) (by omega), fun z => nxt _ (by omega) ?_ hb.1 (by omega), fun z => ⟨by omega, by omega, fun _ y11 e11 => ?_⟩⟩⟩
        · show _ = ms_T _ _ _ p + _
          rw [if_neg (by rw [← ep]; exact z)]; omega
        · have h62 := hR ((p : Int) / 3) ((p : Int) % 3) (by omega) (by omega) (by omega) (by omega)
          rw [show 3 * ((p : Int) / 3) + (p : Int) % 3 = p by omega] at h62
          have wr := ms_W_r (L := L) (P := P) (nx := fun p a => σ0 58 (6 * p + a)) (mo := fun p a => σ0 59 (6 * p + a)) n.toNat ((p : Int) / 3) ((p : Int) % 3)
          rw [h62, w64_id ⟨by omega, by omega⟩] at e11
          refine nxt _ (by omega) ?_ (by omega) (by omega)
          show _ = ms_T _ _ _ p + _
          rw [if_pos (by rw [← ep]; exact z)]; exact e11
    unfold f_X7_howMany_u37
    exact ⟨3000, S 3000 0 (by omega) (by omega) ⟨Int.le_refl 0, Int.le_refl 0⟩⟩
  have G : ∀ (N : Nat) (σ : ml_St), (∀ j, j ≠ 55 → j ≠ 62 → j ≠ 63 → σ j = σ0 j) → (∀ b, b ≠ 11 → σ 55 b = σ0 55 b) → 0 ≤ σ 55 11 → σ 55 11 ≤ n → ic_W σ → 1001 - σ 55 11 < N → f_X7_howMany_u12 Q (f_X7_howMany_u37 Q) N σ n x := by
    intro N
    induction N with
    | zero => intro σ _ _ _ h _ hN; omega
    | succ N ih =>
      intro σ f fb q0 q1 hW hN
      unfold f_X7_howMany_u12
      have nxσ : mt_nx L P σ := by unfold mt_nx; rw [fb 1 (by omega), fb 2 (by omega), f 58 (by omega) (by omega) (by omega), f 59 (by omega) (by omega) (by omega)]; exact nx
      have hR := (WI σ f fb).1 hW
      refine fun _ => ⟨fun z => U σ f fb (by omega) hW, fun z => s_lengthenRow (V := ms_W L P (fun p a => σ0 58 (6 * p + a)) (fun p a => σ0 59 (6 * p + a)) (σ 55 11).toNat) L1 L6 P0 P1 nxσ (fun p l p0 p1 l0 l1 => ⟨(ms_W_r _ _ _).1, (ms_W_r _ _ _).2, hR p l p0 p1 l0 l1⟩) (fun σ3 f3 h3 => ?_)⟩
      rw [f3 55 (by omega) (by omega)]
      refine fun _ => ⟨mt_I (by omega) (by omega), fun σ6 s6 => ?_⟩
      have f6 : ∀ j, j ≠ 55 → j ≠ 62 → j ≠ 63 → σ6 j = σ0 j := fun j h1 h2 h3 => by rw [s6, ml_up_k h1, f3 j h2 h3, f j h1 h2 h3]
      have fb6 : ∀ b, b ≠ 11 → σ6 55 b = σ0 55 b := fun b hb => by rw [s6, ml_up_i hb, f3 55 (by omega) (by omega), fb b hb]
      refine ih σ6 f6 fb6 (by rw [s6, ml_up_same]; omega) (by rw [s6, ml_up_same]; omega) ((WI σ6 f6 fb6).2 (fun p l p0 p1 l0 l1 => ?_)) (by rw [s6, ml_up_same]; omega)
      have e11 : σ6 55 11 = σ 55 11 + 1 := by rw [s6, ml_up_same]
      rw [e11, show (σ 55 11 + 1).toNat = (σ 55 11).toNat + 1 by omega, s6, ml_up_k (by omega), h3 p l p0 p1 l0 l1, f 58 (by omega) (by omega) (by omega), f 59 (by omega) (by omega) (by omega)]
      rfl
  unfold f_X7_howMany f_X7_howMany_u0
  refine fun _ => ⟨fun z => ⟨1010, G 1010 σ0 (fun _ _ _ _ => rfl) (fun _ _ => rfl) r0 z W (by omega)⟩, fun _ => s_startRow (fun σ3 f3 fb3 z3 r3 => ⟨1010, ?_⟩)⟩
  have f3' : ∀ j, j ≠ 55 → j ≠ 62 → j ≠ 63 → σ3 j = σ0 j := fun j h1 h2 _ => f3 j h1 h2
  refine G 1010 σ3 f3' fb3 (by omega) (by omega) ((WI σ3 f3' fb3).2 (fun p l p0 p1 l0 l1 => ?_)) (by omega)
  rw [z3, r3 _ (by omega) (by omega)]
  show _ = if p = 0 ∧ l = 0 then (1 : Int) else 0
  by_cases z : p = 0 ∧ l = 0
  · rw [if_pos z, if_pos (by omega)]
  · rw [if_neg z, if_neg (by omega)]
theorem ic_G_nx {h told : Int} {σ : ml_St} (g : ic_G h told σ) : mt_nx (σ 55 1) (σ 55 2) σ := ⟨rfl, rfl, g.2.2.2.2.2.2.1⟩
/-- the class's places: what they are -/
def ms_C (h told : Int) (mk : Int → Int → Int) (set : Int) (L P : Int) (l : Int → Int) (S nx mo : Int → Int → Int) : Prop := 1 ≤ L ∧ L ≤ 6 ∧ 1 ≤ P ∧ P ≤ 946 ∧ ic_L set told L l ∧ mt_bf h L (fun a => mk (l a)) S nx P P 0 ∧ ∀ p a, 0 ≤ p → p < P → 0 ≤ a → a < L → mo p a = min 3 (mt_both h (mq_w (S p)) (mk (l a)) 20)
theorem ms_C_i {h told : Int} {mk : Int → Int → Int} {σ : ml_St} (g : ic_G h told σ) (x : ic_X h told mk σ) : ∃ S, ic_Y h mk (σ 55 2) 0 S σ ∧ ms_C h told mk (σ 55 0) (σ 55 1) (σ 55 2) (σ 56) S (fun p a => σ 58 (6 * p + a)) (fun p a => σ 59 (6 * p + a)) := by
  obtain ⟨x1, ⟨S, x2⟩, x3⟩ := x
  exact ⟨S, x2, g.1, g.2.1, g.2.2.2.1, g.2.2.2.2.1, x1, x2.1, fun p a p0 p1 a0 a1 => x2.2.1 p a p0 a0 a1 (Or.inl p1)⟩
theorem c_many {Q : Int → ml_St → Prop} {h told ts cap set n x : Int} {tb cl pr sz : Int → Int} {T : Int → Int → Int} {σ0 : ml_St} (i : IC h told ts cap tb cl pr sz T σ0) (k0 : ¬ (mt_ls told (mt_mk h T sz) set ∧ 1 ≤ n ∧ n ≤ 1000 ∧ 0 ≤ x ∧ x ≤ 3) → Q (-1) σ0) (k : mt_ls told (mt_mk h T sz) set → 1 ≤ n → n ≤ 1000 → 0 ≤ x → x ≤ 3 → ∀ σ L P l S nx mo, IC h told ts cap tb cl pr sz T σ → (∀ j, 215 ≤ j → σ j = σ0 j) → ms_C h told (mt_mk h T sz) set L P l S nx mo → Q (ms_T (fun p => mt_cl h (S p) cl) (ms_W L P nx mo n.toNat) x (3 * P).toNat % 998244353) σ) : f_X11_many σ0 set n x Q := by
  unfold f_X11_many f_X11_many_u0
  unfold f_X11_many_u29
  refine ⟨fun z => k0 (fun y => by omega), fun q1 => ⟨fun z => k0 (fun y => by omega), fun q2 => ⟨fun z => k0 (fun y => by omega), fun q3 => ⟨fun z => k0 (fun y => by omega), fun q4 => s_openLetters i (fun no _ => ⟨fun z => absurd rfl z, fun _ => k0 (fun y => no y.1)⟩) (fun ls σ iσ g X eset f _ => ⟨fun _ => ?_, fun z => absurd z (by omega)⟩)⟩⟩⟩⟩
  have c := iσ.2.2.1
  obtain ⟨S, Y, C⟩ := ms_C_i g X
  rw [iσ.1.1]
  refine fun _ => s_closeAll iσ.1.2.2.1 iσ.1.2.2.2.1 g Y c.2.2.2.1 c.2.2.1 (fun σ8 f8 c8 x8 => ?_)
  have e55 : σ8 55 = σ 55 := f8 55 (by omega) (by omega)
  have nx8 : mt_nx (σ 55 1) (σ 55 2) σ8 := by unfold mt_nx; rw [e55, f8 58 (by omega) (by omega), f8 59 (by omega) (by omega)]; exact ic_G_nx g
  have W8 : ic_W σ8 := by unfold ic_W; rw [e55, f8 58 (by omega) (by omega), f8 59 (by omega) (by omega), f8 62 (by omega) (by omega)]; exact X.2.2
  obtain ⟨g1, g2, g3, g4, g5, g6, g7, g8, g9, g10⟩ := id g
  refine s_howMany7 (c := fun p => mt_cl h (S p) cl) g1 g2 g4 g5 nx8 W8 (by omega) (by omega) (by rw [e55]; exact g9) (by rw [e55]; exact g10) c8 x8 (fun σ9 f9 fb9 z0 z1 W9 _ => ?_)
  have fs : mt_fs σ σ9 := fun j hj => by rw [f9 j (by omega) (by omega) (by omega), f8 j (by omega) (by omega)]
  rw [f8 58 (by omega) (by omega), f8 59 (by omega) (by omega)]
  rw [eset] at C
  refine k ls (by omega) (by omega) (by omega) (by omega) σ9 _ _ _ S _ _ (IC_fs fs ?_ iσ) (fun j hj => by rw [fs j (by omega), f j (by omega)]) C
  rcases iσ.2.2.2.2.2.2 with z | z
  · left; rw [fb9 0 (by omega), e55]; exact z
  · right
    have o : ∀ j, (j = 56 ∨ j = 57 ∨ j = 58 ∨ j = 59 ∨ j = 61) → σ9 j = σ j := fun j hj => by rw [f9 j (by omega) (by omega) (by omega), f8 j (by omega) (by omega)]
    exact ⟨z.1, ic_G_k (fun b hb => by rw [fb9 b hb, e55]) z0 z1 o g, ic_X_k (fun b hb => by rw [fb9 b hb, e55]) o W9 X⟩
theorem c_made {Q : Int → ml_St → Prop} {h told ts cap set : Int} {tb cl pr sz : Int → Int} {T : Int → Int → Int} {σ0 : ml_St} (i : IC h told ts cap tb cl pr sz T σ0) (k0 : ¬ mt_ls told (mt_mk h T sz) set → Q (-1) σ0) (k : mt_ls told (mt_mk h T sz) set → ∀ σ L P l S nx mo, IC h told ts cap tb cl pr sz T σ → (∀ j, 215 ≤ j → σ j = σ0 j) → ms_C h told (mt_mk h T sz) set L P l S nx mo → Q (P - 1) σ) : f_X11_made σ0 set Q := by
  unfold f_X11_made f_X11_made_u0
  unfold f_X11_made_u21
  refine s_openLetters i (fun no _ => ⟨fun _ => k0 no, fun z => absurd rfl z⟩) (fun ls σ iσ g X eset f _ => ⟨fun z => absurd z (by omega), fun _ _ => ?_⟩)
  obtain ⟨S, Y, C⟩ := ms_C_i g X
  rw [eset] at C
  exact ⟨mt_I (by have := g.2.2.2.1; omega) (by have := g.2.2.2.2.1; omega), k ls σ _ _ _ S _ _ iσ (fun j hj => f j (by omega)) C⟩
