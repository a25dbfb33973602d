/-! weights to a target: what they must be, and that they are one -/
def mx_bw (P L t : Int) (W : Int → Int) (nx : Int → Int → Int) (R : Int → Int) : Prop := R t = 0 ∧ (∀ p, 1 ≤ p → p < P → 0 ≤ R p ∧ R p ≤ 1000000000000000000) ∧ (∀ p a, 1 ≤ p → p < P → p ≠ t → 0 ≤ a → a < L → R p ≤ W a + R (nx p a)) ∧ ∀ p, 1 ≤ p → p < P → p ≠ t → R p < 1000000000000000000 → ∃ a, 0 ≤ a ∧ a < L ∧ R p = W a + R (nx p a)
/-- p leads to t by n letters, each of the least weight -/
def mx_td (L t : Int) (W : Int → Int) (nx : Int → Int → Int) (R : Int → Int) : Nat → Int → Prop
  | 0, p => p = t
  | n + 1, p => ∃ a, 0 ≤ a ∧ a < L ∧ R p = W a + R (nx p a) ∧ mx_td L t W nx R n (nx p a)
def mx_ct (R : Int → Int) (v : Int) : Nat → Nat
  | 0 => 0
  | n + 1 => mx_ct R v n + if R ((n : Int) + 1) < v then 1 else 0
theorem mx_ct_le {R : Int → Int} {v : Int} : ∀ n : Nat, mx_ct R v n ≤ n := by
  intro n
  induction n with
  | zero => exact Nat.le_refl 0
  | succ n ih => unfold mx_ct; split <;> omega
theorem mx_ct_m {R : Int → Int} {v w : Int} (h : v ≤ w) : ∀ n : Nat, mx_ct R v n ≤ mx_ct R w n := by
  intro n
  induction n with
  | zero => exact Nat.le_refl 0
  | succ n ih =>
    unfold mx_ct
    by_cases z : R ((n : Int) + 1) < v
    · rw [if_pos z, if_pos (by omega)]; omega
    · rw [if_neg z]; omega
theorem mx_ct_s {R : Int → Int} {v w q : Int} (h1 : v ≤ R q) (h2 : R q < w) (q1 : 1 ≤ q) : ∀ n : Nat, q ≤ n → mx_ct R v n + 1 ≤ mx_ct R w n := by
  intro n
  induction n with
  | zero => intro h; omega
  | succ n ih =>
    intro hq
    unfold mx_ct
    by_cases z : q = (n : Int) + 1
    · rw [← z, if_neg (by omega), if_pos h2]
      have := mx_ct_m (R := R) (v := v) (w := w) (by omega) n
      omega
    · have := ih (by omega)
      by_cases y : R ((n : Int) + 1) < v
      · rw [if_pos y, if_pos (by omega)]; omega
      · rw [if_neg y]; omega
theorem mx_td_e {P L t : Int} {W : Int → Int} {nx : Int → Int → Int} {R : Int → Int} (G : mx_bw P L t W nx R) (W1 : ∀ a, 0 ≤ a → a < L → 1 ≤ W a) (hn : ∀ p a, 0 ≤ p → p < P → 0 ≤ a → a < L → 1 ≤ nx p a ∧ nx p a < P) : ∀ (N : Nat) (p : Int), R p < N → 1 ≤ p → p < P → R p < 1000000000000000000 → ∃ n, n ≤ mx_ct R (R p) (P - 1).toNat ∧ mx_td L t W nx R n p := by
  obtain ⟨G1, G2, G3, G4⟩ := G
  intro N
  induction N with
  | zero => intro p h p1 p2; have := (G2 p p1 p2).1; omega
  | succ N ih =>
    intro p h p1 p2 f
    by_cases z : p = t
    · exact ⟨0, by omega, z⟩
    · obtain ⟨a, a0, a1, e⟩ := G4 p p1 p2 z f
      have w := W1 a a0 a1
      obtain ⟨n1, n2⟩ := hn p a (by omega) p2 a0 a1
      obtain ⟨n, h1, h2⟩ := ih (nx p a) (by omega) n1 n2 (by omega)
      exact ⟨n + 1, by have := mx_ct_s (R := R) (v := R (nx p a)) (w := R p) (q := nx p a) (Int.le_refl _) (by omega) n1 (P - 1).toNat (by omega); omega, a, a0, a1, e, h2⟩
/-- what nothing makes less isn't more -/
theorem mx_bw_le {P L t : Int} {W : Int → Int} {nx : Int → Int → Int} {R E : Int → Int} (G : mx_bw P L t W nx R) (W1 : ∀ a, 0 ≤ a → a < L → 1 ≤ W a) (hn : ∀ p a, 0 ≤ p → p < P → 0 ≤ a → a < L → 1 ≤ nx p a ∧ nx p a < P) (e0 : E t = 0) (e1 : ∀ p, 1 ≤ p → p < P → E p ≤ 1000000000000000000) (e2 : ∀ p a, 1 ≤ p → p < P → 0 ≤ a → a < L → E p ≤ W a + E (nx p a)) : ∀ (N : Nat) (p : Int), R p < N → 1 ≤ p → p < P → E p ≤ R p := by
  obtain ⟨G1, G2, G3, G4⟩ := G
  intro N
  induction N with
  | zero => intro p h p1 p2; have := (G2 p p1 p2).1; omega
  | succ N ih =>
    intro p h p1 p2
    by_cases z : p = t
    · rw [z, e0, G1]; exact Int.le_refl 0
    · by_cases f : R p < 1000000000000000000
      · obtain ⟨a, a0, a1, e⟩ := G4 p p1 p2 z f
        have w := W1 a a0 a1
        obtain ⟨n1, n2⟩ := hn p a (by omega) p2 a0 a1
        have := ih (nx p a) (by omega) n1 n2
        have := e2 p a p1 p2 a0 a1
        omega
      · have := e1 p p1 p2; have := (G2 p p1 p2).2; omega
/-- after r rounds -/
def mx_rr (P L t : Int) (W : Int → Int) (nx : Int → Int → Int) (E : Int → Int) : Prop := (∀ p, 0 ≤ p → p < 946 → 0 ≤ E p ∧ E p ≤ 1000000000000000000) ∧ E t = 0 ∧ ∀ R, mx_bw P L t W nx R → ∀ p, 1 ≤ p → p < P → R p ≤ E p
def mx_rd (P L t : Int) (W : Int → Int) (nx : Int → Int → Int) (E : Int → Int) (r p : Int) : Prop := ∀ R, mx_bw P L t W nx R → ∀ n : Nat, n ≤ r → mx_td L t W nx R n p → E p ≤ R p
def mx_rl (P L t : Int) (W : Int → Int) (nx : Int → Int → Int) (E : Int → Int) (r p i : Int) : Prop := ∀ R, mx_bw P L t W nx R → ∀ (n : Nat) b, n ≤ r → 0 ≤ b → b < i → R p = W b + R (nx p b) → mx_td L t W nx R n (nx p b) → E p ≤ R p
theorem mx_rr_set {P L t : Int} {W : Int → Int} {nx : Int → Int → Int} {E : Int → Int} (W1 : ∀ a, 0 ≤ a → a < L → 1 ≤ W a) (hn : ∀ p a, 0 ≤ p → p < P → 0 ≤ a → a < L → 1 ≤ nx p a ∧ nx p a < P) (P1 : P ≤ 946) {a i v : Int} (a0 : 0 ≤ a) (a1 : a < P) (i0 : 0 ≤ i) (i1 : i < L) (hv : v = W i + E (nx a i)) (lt : v < E a) {E' : Int → Int} (eo : ∀ p, p ≠ a → E' p = E p) (en : E' a = v) (X : mx_rr P L t W nx E) : mx_rr P L t W nx E' ∧ ∀ p, E' p ≤ E p := by
  obtain ⟨X1, X2, X3⟩ := X
  obtain ⟨n1, n2⟩ := hn a i a0 a1 i0 i1
  have w := W1 i i0 i1
  have y := X1 (nx a i) (by omega) (by omega)
  have ya := X1 a a0 (by omega)
  have ta : t ≠ a := fun e => by rw [e] at X2; omega
  refine ⟨⟨fun p p0 p1 => ?_, by rw [eo t ta]; exact X2, fun R G p p0 p1 => ?_⟩, fun p => ?_⟩
  · by_cases z : p = a
    · rw [z, en]; omega
    · rw [eo p z]; exact X1 p p0 p1
  · by_cases z : p = a
    · rw [z, en, hv]
      rw [z] at p0
      have g := G.2.2.1 a i p0 a1 (fun e => ta e.symm) i0 i1
      have := X3 R G (nx a i) n1 n2
      omega
    · rw [eo p z]; exact X3 R G p p0 p1
  · by_cases z : p = a
    · rw [z, en]; omega
    · rw [eo p z]; exact Int.le_refl _
theorem mx_rd_m {P L t : Int} {W : Int → Int} {nx : Int → Int → Int} {E E' : Int → Int} {r p : Int} (h : E' p ≤ E p) (x : mx_rd P L t W nx E r p) : mx_rd P L t W nx E' r p := fun R G n hn d => Int.le_trans h (x R G n hn d)
theorem mx_rl_m {P L t : Int} {W : Int → Int} {nx : Int → Int → Int} {E E' : Int → Int} {r p i : Int} (h : E' p ≤ E p) (x : mx_rl P L t W nx E r p i) : mx_rl P L t W nx E' r p i := fun R G n b hn b0 b1 e d => Int.le_trans h (x R G n b hn b0 b1 e d)
/-- one more letter was looked at -/
theorem mx_rl_s {P L t : Int} {W : Int → Int} {nx : Int → Int → Int} {E : Int → Int} {r p i : Int} (h : E p ≤ W i + E (nx p i)) (d : mx_rd P L t W nx E r (nx p i)) (x : mx_rl P L t W nx E r p i) : mx_rl P L t W nx E r p (i + 1) := fun R G n b hn b0 b1 e td => by
  by_cases z : b = i
  · subst z
    have := d R G n hn td
    omega
  · exact x R G n b hn b0 (by omega) e td
/-- all were -/
theorem mx_rd_s {P L t : Int} {W : Int → Int} {nx : Int → Int → Int} {E : Int → Int} {r p : Int} (et : E t = 0) (x : mx_rl P L t W nx E r p L) : mx_rd P L t W nx E (r + 1) p := fun R G n hn td => by
  cases n with
  | zero => rw [show p = t from td, et, G.1]; exact Int.le_refl 0
  | succ n =>
    obtain ⟨a, a0, a1, e, d⟩ := td
    exact x R G n a (by omega) a0 a1 e d
theorem s_weightBy_x {Q : Int → ml_St → Prop} {L P told a i : Int} {pr : Int → Int} {σ : ml_St} (L6 : L ≤ 6) (P1 : P ≤ 946) (t16 : told ≤ 16) (nx : mt_nx L P σ) (lt : ∀ i, 0 ≤ i → i < L → 0 ≤ σ 56 i ∧ σ 56 i < told) (pd : ic_D pr σ) (eb : ∀ p, 0 ≤ p → p < 946 → 0 ≤ σ 75 p ∧ σ 75 p ≤ 1000000000000000000) (a0 : 0 ≤ a) (a1 : a < P) (i0 : 0 ≤ i) (i1 : i < L) (k : Q (pr (σ 56 i) * 1048576 + 1 + σ 75 (σ 58 (6 * a + i))) σ) : f_X1_weightBy σ a i Q := by
  obtain ⟨n1, n2, n3⟩ := nx
  obtain ⟨m1, m2, m3, m4⟩ := n3 a i a0 a1 i0 i1
  rw [show 6 * a + i = a * 6 + i by omega] at m1 m2 k
  obtain ⟨l0, l1⟩ := lt i i0 i1
  obtain ⟨d1, d2, d3⟩ := pd (σ 56 i) l0 (by omega)
  obtain ⟨b0, b1⟩ := eb (σ 58 (a * 6 + i)) (by omega) (by omega)
  unfold f_X1_weightBy f_X1_weightBy_u0
  refine ⟨i0, by omega, fun _ => ⟨l0, by omega, fun _ y e => ⟨mt_I (by omega) (by omega), mt_I (by omega) (by omega), by omega, by omega, fun _ => ⟨by omega, by omega, fun _ => ?_⟩⟩⟩⟩
  rw [d1, w64_id (x := pr (σ 56 i) * 1048576) ⟨by omega, by omega⟩, w64_id (x := pr (σ 56 i) * 1048576 + 1) ⟨by omega, by omega⟩] at e
  rw [e, w64_id ⟨by omega, by omega⟩]
  exact k
theorem s_weighRests {Q : ml_St → Prop} {L P told t : Int} {pr W : Int → Int} {X : Int → Int → Int} {σ0 : ml_St} (L1 : 1 ≤ L) (L6 : L ≤ 6) (P0 : 1 ≤ P) (P1 : P ≤ 946) (t16 : told ≤ 16) (nx : mt_nx L P σ0) (lt : ∀ i, 0 ≤ i → i < L → 0 ≤ σ0 56 i ∧ σ0 56 i < told) (pd : ic_D pr σ0) (hW : ∀ i, W i = pr (σ0 56 i) * 1048576 + 1) (hX : ∀ p a, X p a = σ0 58 (6 * p + a)) (t0 : 1 ≤ t) (t1 : t < P) (k : ∀ σ, mt_f70 σ0 σ → (∀ p, 0 ≤ p → p < 946 → 0 ≤ σ 75 p ∧ σ 75 p ≤ 1000000000000000000) → (∀ R, mx_bw P L t W X R → ∀ p, 1 ≤ p → p < P → σ 75 p = R p) → Q σ) : f_X1_weighRests σ0 t Q := by
  have W1 : ∀ a, 0 ≤ a → a < L → 1 ≤ W a := fun a a0 a1 => by
    obtain ⟨l0, l1⟩ := lt a a0 a1
    have := pd (σ0 56 a) l0 (by omega)
    rw [hW]; omega
  have hn : ∀ p a, 0 ≤ p → p < P → 0 ≤ a → a < L → 1 ≤ X p a ∧ X p a < P := fun p a p0 p1 a0 a1 => by
    have := nx.2.2 p a p0 p1 a0 a1
    rw [hX]; omega
  have pdk : ∀ {σ}, mt_f70 σ0 σ → ic_D pr σ := fun f w w0 w1 => by rw [f _ (by omega)]; exact pd w w0 w1
  have R : ∀ (N : Nat) (ch rd : Int) (σ : ml_St), 0 ≤ rd → rd ≤ 946 → 946 - rd < N → mt_f70 σ0 σ → mx_rr P L t W X (σ 75) → (∀ p, 1 ≤ p → p < P → mx_rd P L t W X (σ 75) rd p) → (ch = 0 → ∀ p b, 1 ≤ p → p < P → 0 ≤ b → b < L → σ 75 p ≤ W b + σ 75 (X p b)) → f_X1_weighRests_u23 Q (f_X1_weighRests_u119 Q) N σ ch rd := by
    intro N
    induction N with
    | zero => intro ch rd σ r0 r1 hN; omega
    | succ N ih =>
      intro ch rd σ r0 r1 hN f xr xd xz
      unfold f_X1_weighRests_u23
      unfold f_X1_weighRests_u119
      rw [f 55 (by omega), nx.2.1]
      refine ⟨fun c => k σ f xr.1 (fun R G p p1 p2 => ?_), fun _ => ⟨fun c => k σ f xr.1 (fun R G p p1 p2 => ?_), fun c _ => ⟨mt_I (by omega) (by omega), fun y5 e5 => ⟨950, ?_⟩⟩⟩⟩
      · have a := mx_bw_le G W1 hn xr.2.1 (fun p p1 p2 => (xr.1 p (by omega) (by omega)).2) (fun p a p1 p2 a0 a1 => xz c p a p1 p2 a0 a1) ((R p).toNat + 1) p (by omega) p1 p2
        have b := xr.2.2 R G p p1 p2
        omega
      · have b := xr.2.2 R G p p1 p2
        by_cases z : R p < 1000000000000000000
        · obtain ⟨n, n1, n2⟩ := mx_td_e G W1 hn ((R p).toNat + 1) p (by omega) p1 p2 z
          have := mx_ct_le (R := R) (v := R p) (P - 1).toNat
          have := xd p p1 p2 R G n (by omega) n2
          omega
        · have := (xr.1 p (by omega) (by omega)).2
          omega
      have A : ∀ (M : Nat) (a ch : Int) (σ : ml_St), -1 ≤ a → a < P → a + 1 < M → mt_f70 σ0 σ → mx_rr P L t W X (σ 75) → (∀ p, 1 ≤ p → p < P → mx_rd P L t W X (σ 75) rd p) → (∀ p, 1 ≤ p → a < p → p < P → mx_rd P L t W X (σ 75) (rd + 1) p) → (ch = 0 → ∀ p b, 1 ≤ p → a < p → p < P → 0 ≤ b → b < L → σ 75 p ≤ W b + σ 75 (X p b)) → f_X1_weighRests_u47 Q (f_X1_weighRests_u113 Q (f_X1_weighRests_u23 Q (fun σ => Q σ) N)) M σ ch rd a := by
        intro M
        induction M with
        | zero => intro a ch σ a0 a1 hM; omega
        | succ M ihM =>
          intro a ch σ a0 a1 hM f xr xd xp xz
          unfold f_X1_weighRests_u47
          refine ⟨fun c2 => ?_, fun c2 => ⟨10, ?_⟩⟩
          · unfold f_X1_weighRests_u113
            refine ⟨mt_I (by omega) (by omega), fun y e => ?_⟩
            subst e
            exact ih ch (rd + 1) σ (by omega) (by omega) (by omega) f xr (fun p p1 p2 => xp p p1 (by omega) p2) (fun z p b p1 p2 b0 b1 => xz z p b p1 (by omega) p2 b0 b1)
          · have I : ∀ (V : Nat) (i ch : Int) (σ : ml_St), 0 ≤ i → i ≤ L → L - i < V → mt_f70 σ0 σ → mx_rr P L t W X (σ 75) → (∀ p, 1 ≤ p → p < P → mx_rd P L t W X (σ 75) rd p) → (∀ p, 1 ≤ p → a < p → p < P → mx_rd P L t W X (σ 75) (rd + 1) p) → mx_rl P L t W X (σ 75) rd a i → (ch = 0 → (∀ p b, 1 ≤ p → a < p → p < P → 0 ≤ b → b < L → σ 75 p ≤ W b + σ 75 (X p b)) ∧ ∀ b, 0 ≤ b → b < i → σ 75 a ≤ W b + σ 75 (X a b)) → f_X1_weighRests_u55 Q (f_X1_weighRests_u107 Q (f_X1_weighRests_u47 Q (f_X1_weighRests_u113 Q (f_X1_weighRests_u23 Q (fun σ => Q σ) N)) M)) V σ ch rd a i := by
              intro V
              induction V with
              | zero => intro i ch σ i0 i1 hW; omega
              | succ V ihV =>
                intro i ch σ i0 i1 hV f xr xd xp xl xz
                unfold f_X1_weighRests_u55
                rw [f 55 (by omega), nx.1]
                have nxt : ∀ ch σ, i < L → mt_f70 σ0 σ → mx_rr P L t W X (σ 75) → (∀ p, 1 ≤ p → p < P → mx_rd P L t W X (σ 75) rd p) → (∀ p, 1 ≤ p → a < p → p < P → mx_rd P L t W X (σ 75) (rd + 1) p) → mx_rl P L t W X (σ 75) rd a (i + 1) → (ch = 0 → (∀ p b, 1 ≤ p → a < p → p < P → 0 ≤ b → b < L → σ 75 p ≤ W b + σ 75 (X p b)) ∧ ∀ b, 0 ≤ b → b < i + 1 → σ 75 a ≤ W b + σ 75 (X a b)) → f_X1_weighRests_u101 Q (f_X1_weighRests_u55 Q (f_X1_weighRests_u107 Q (f_X1_weighRests_u47 Q (f_X1_weighRests_u113 Q (f_X1_weighRests_u23 Q (fun σ => Q σ) N)) M)) V) σ ch rd a i := by
                  intro ch σ hi f xr xd xp xl xz
                  unfold f_X1_weighRests_u101
                  refine ⟨mt_I (by omega) (by omega), fun y e => ?_⟩
                  subst e
                  exact ihV (i + 1) ch σ (by omega) (by omega) (by omega) f xr xd xp xl xz
                refine fun _ => ⟨fun c3 => ?_, fun c3 => ?_⟩
                · unfold f_X1_weighRests_u107
                  refine ⟨mt_I (by omega) (by omega), fun y e => ?_⟩
                  have e : y = a - 1 := by omega
                  subst e
                  have ei : i = L := by omega
                  rw [ei] at xl xz
                  refine ihM (a - 1) ch σ (by omega) (by omega) (by omega) f xr xd (fun p p1 ap p2 => ?_) (fun z p b p1 ap p2 b0 b1 => ?_)
                  · by_cases w : p = a
                    · rw [w]; exact mx_rd_s xr.2.1 xl
                    · exact xp p p1 (by omega) p2
                  · by_cases w : p = a
                    · rw [w]; exact (xz z).2 b b0 b1
                    · exact (xz z).1 p b p1 (by omega) p2 b0 b1
                have hi : i < L := by omega
                obtain ⟨v1, v2⟩ := hn a i (by omega) a1 i0 hi
                refine s_weightBy_x L6 P1 t16 (mt_nx_k f nx) (by rw [f 56 (by omega)]; exact lt) (pdk f) xr.1 (by omega) a1 i0 hi ?_
                rw [f 56 (by omega), f 58 (by omega), ← hW, ← hX]
                refine fun _ => ⟨by omega, by omega, fun _ => ⟨fun g => ?_, fun g => ⟨by omega, by omega, fun σ6 s6 => ?_⟩⟩⟩
                · refine nxt _ σ hi f xr xd xp (mx_rl_s g (xd _ v1 v2) xl) (fun z => ⟨(xz z).1, fun b b0 b1 => ?_⟩)
                  by_cases w : b = i
                  · rw [w]; exact g
                  · exact (xz z).2 b b0 (by omega)
                · have eo : ∀ p, p ≠ a → σ6 75 p = σ 75 p := fun p hp => by rw [s6, ml_up_i hp]
                  have en : σ6 75 a = W i + σ 75 (X a i) := by rw [s6, ml_up_same]
                  have w := W1 i i0 hi
                  have na : X a i ≠ a := fun e => by rw [e] at g; omega
                  obtain ⟨xr', le⟩ := mx_rr_set W1 hn P1 (by omega) a1 i0 hi rfl (by omega) eo en xr
                  have xd' := fun p p1 p2 => mx_rd_m (le p) (xd p p1 p2)
                  exact nxt _ σ6 hi (by rw [s6]; exact mt_f70_t f (mt_f70_up (by omega) (by omega))) xr' xd' (fun p p1 ap p2 => mx_rd_m (le p) (xp p p1 ap p2)) (mx_rl_s (by rw [en, eo _ na]; exact Int.le_refl _) (xd' _ v1 v2) (mx_rl_m (le a) xl)) (fun z => absurd z (by omega))
            exact I 10 0 ch σ (by omega) (by omega) (by omega) f xr xd xp (fun R G n b hb b0 b1 => by omega) (fun z => ⟨xz z, fun b b0 b1 => by omega⟩)
      exact A 950 y5 0 σ (by omega) (by omega) (by omega) f xr xd (fun p p1 ap p2 => by omega) (fun z p b p1 ap p2 => by omega)
  unfold f_X1_weighRests f_X1_weighRests_u0
  refine s_fill64 (by omega) (fun σ1 f1 x1 => ⟨by omega, by omega, fun σ2 s2 => ⟨950, ?_⟩⟩)
  have et : σ2 75 t = 0 := by rw [s2, ml_up_same]
  have eo : ∀ p, 0 ≤ p → p < 946 → p ≠ t → σ2 75 p = 1000000000000000000 := fun p p0 p1 h => by rw [s2, ml_up_i h]; exact x1 p p0 (by omega)
  refine R 950 1 0 σ2 (by omega) (by omega) (by omega) (fun j hj => by rw [s2, ml_up_k (by omega), f1 j (by omega)]) ⟨fun p p0 p1 => ?_, et, fun R G p p1 p2 => ?_⟩ (fun p p1 p2 R G n hn d => ?_) (fun z => absurd z (by omega))
  · by_cases z : p = t
    · rw [z, et]; omega
    · rw [eo p p0 p1 z]; omega
  · by_cases z : p = t
    · rw [z, et, G.1]; exact Int.le_refl 0
    · rw [eo p (by omega) (by omega) z]; exact (G.2.1 p p1 p2).2
  · have : n = 0 := by omega
    subst this
    rw [show p = t from d, et, G.1]; exact Int.le_refl 0
/-- the least index of the least -/
def mx_am (f : Int → Int) : Nat → Int
  | 0 => 0
  | n + 1 => if f ((n : Int) + 1) < f (mx_am f n) then (n : Int) + 1 else mx_am f n
theorem mx_am_s {f : Int → Int} (n : Nat) : mx_am f (n + 1) = if f ((n : Int) + 1) < f (mx_am f n) then (n : Int) + 1 else mx_am f n := rfl
theorem mx_am_p {f : Int → Int} : ∀ n : Nat, 0 ≤ mx_am f n ∧ mx_am f n ≤ n ∧ (∀ a : Int, 0 ≤ a → a ≤ n → f (mx_am f n) ≤ f a) ∧ ∀ a : Int, 0 ≤ a → a < mx_am f n → f (mx_am f n) < f a := by
  intro n
  induction n with
  | zero => exact ⟨Int.le_refl 0, Int.le_refl 0, fun a a0 a1 => by rw [show a = 0 by omega]; exact Int.le_refl _, fun a a0 a1 => by have : mx_am f 0 = 0 := rfl; omega⟩
  | succ n ih =>
    obtain ⟨i1, i2, i3, i4⟩ := ih
    rw [mx_am_s]
    by_cases z : f ((n : Int) + 1) < f (mx_am f n)
    · rw [if_pos z]
      refine ⟨by omega, by omega, fun a a0 a1 => ?_, fun a a0 a1 => ?_⟩
      · by_cases w : a = (n : Int) + 1
        · rw [w]; exact Int.le_refl _
        · have := i3 a a0 (by omega); omega
      · have := i3 a a0 (by omega); omega
    · rw [if_neg z]
      refine ⟨i1, by omega, fun a a0 a1 => ?_, i4⟩
      by_cases w : a = (n : Int) + 1
      · rw [w]; omega
      · exact i3 a a0 (by omega)
/-- the way by the best letters -/
def mx_pa (L : Int) (f nx : Int → Int → Int) : Nat → Int
  | 0 => 0
  | n + 1 => nx (mx_pa L f nx n) (mx_am (f (mx_pa L f nx n)) (L - 1).toNat)
def mx_b (L : Int) (f nx : Int → Int → Int) (n : Nat) : Int := mx_am (f (mx_pa L f nx n)) (L - 1).toNat
theorem mx_pa_s {L : Int} {f nx : Int → Int → Int} (n : Nat) : mx_pa L f nx (n + 1) = nx (mx_pa L f nx n) (mx_b L f nx n) := rfl
theorem mx_b_p {L : Int} {f nx : Int → Int → Int} (L1 : 1 ≤ L) (n : Nat) : 0 ≤ mx_b L f nx n ∧ mx_b L f nx n < L := by
  have := mx_am_p (f := f (mx_pa L f nx n)) (L - 1).toNat
  unfold mx_b; omega
def mx_sp (g : Nat → Int) : Nat → Int
  | 0 => 0
  | n + 1 => mx_sp g n + g n
def mx_f (W E : Int → Int) (nx : Int → Int → Int) (p a : Int) : Int := W a + E (nx p a)
/-- the class's answer: n letters by the weights E -/
def mx_cz (P L t : Int) (W : Int → Int) (nx : Int → Int → Int) (n : Nat) (E : Int → Int) : Prop := (∀ R, mx_bw P L t W nx R → ∀ p, 1 ≤ p → p < P → E p = R p) ∧ 1 ≤ n ∧ n ≤ 2838 ∧ (∀ j : Nat, 1 ≤ j → j < n → mx_pa L (mx_f W E nx) nx j ≠ t) ∧ (mx_pa L (mx_f W E nx) nx n = t ∨ n = 2838)
def mx_an (L : Int) (pr l W E : Int → Int) (nx : Int → Int → Int) (n : Nat) (x : Int) : Int := if x = -2 then mx_sp (fun j => pr (l (mx_b L (mx_f W E nx) nx j))) n else if x = -1 then (n : Int) else if 0 ≤ x ∧ x < n then l (mx_b L (mx_f W E nx) nx x.toNat) else -1
theorem s_findCheapest {Q : ml_St → Prop} {L P told t : Int} {pr W : Int → Int} {X : Int → Int → Int} {σ0 : ml_St} (L1 : 1 ≤ L) (L6 : L ≤ 6) (P0 : 1 ≤ P) (P1 : P ≤ 946) (t16 : told ≤ 16) (nx : mt_nx L P σ0) (lt : ∀ i, 0 ≤ i → i < L → 0 ≤ σ0 56 i ∧ σ0 56 i < told) (pd : ic_D pr σ0) (hW : ∀ i, W i = pr (σ0 56 i) * 1048576 + 1) (hX : ∀ p a, X p a = σ0 58 (6 * p + a)) (tc : t = -1 ∨ (1 ≤ t ∧ t < P)) (k0 : t = -1 → ∀ σ, mt_f70 σ0 σ → σ 70 5 = -1 → σ 70 6 = -1 → Q σ) (k : 1 ≤ t → t < P → ∀ σ (n : Nat) E, mt_f70 σ0 σ → mx_cz P L t W X n E → σ 70 5 = n → σ 70 6 = mx_sp (fun j => pr (σ0 56 (mx_b L (mx_f W E X) X j))) n → (∀ j : Nat, j < n → σ 74 j = σ0 56 (mx_b L (mx_f W E X) X j)) → Q σ) : f_X1_findCheapest σ0 t Q := by
  have pdk : ∀ {σ}, mt_f70 σ0 σ → ic_D pr σ := fun f w w0 w1 => by rw [f _ (by omega)]; exact pd w w0 w1
  unfold f_X1_findCheapest f_X1_findCheapest_u0
  intro σ1 s1 σ2 s2
  have f2 : mt_f70 σ0 σ2 := by rw [s2, s1]; exact mt_f70_t (mt_f70_up (by omega) (by omega)) (mt_f70_up (by omega) (by omega))
  refine ⟨fun c => ?_, fun c => k0 c σ2 f2 (by rw [s2, ml_up_i (by omega), s1, ml_up_same]) (by rw [s2, ml_up_same])⟩
  obtain ⟨t0, t1⟩ : 1 ≤ t ∧ t < P := by omega
  refine s_weighRests L1 L6 P0 P1 t16 (mt_nx_k f2 nx) (by rw [f2 56 (by omega)]; exact lt) (pdk f2) (by rw [f2 56 (by omega)]; exact hW) (by rw [f2 58 (by omega)]; exact hX) t0 t1 (fun σ4 f4 eb eR σ5 s5 σ6 s6 => ⟨2850, ?_⟩)
  generalize hE : σ4 75 = E at eb eR
  have kk := k t0 t1
  clear k k0
  have D : ∀ (N : Nat) (n : Nat) (σ : ml_St), 2838 - (n : Int) < N → n < 2838 → mt_f70 σ0 σ → σ 75 = E → σ 70 5 = n → σ 70 6 = mx_sp (fun j => pr (σ0 56 (mx_b L (mx_f W E X) X j))) n → 0 ≤ σ 70 6 → σ 70 6 ≤ 1000 * n → (∀ j : Nat, j < n → σ 74 j = σ0 56 (mx_b L (mx_f W E X) X j)) → (∀ j : Nat, 1 ≤ j → j < n + 1 → mx_pa L (mx_f W E X) X j ≠ t) → 0 ≤ mx_pa L (mx_f W E X) X n → mx_pa L (mx_f W E X) X n < P → f_X1_findCheapest_u36 Q (f_X1_findCheapest_u165 Q) N σ t (mx_pa L (mx_f W E X) X n) := by
    intro N
    induction N with
    | zero => intro n σ hN; omega
    | succ N ih =>
      intro n σ hN n1 f e75 z5 z6 z7 z8 z74 nt a0 a1
      generalize ha : mx_pa L (mx_f W E X) X n = a at a0 a1 ⊢
      unfold f_X1_findCheapest_u36
      refine ⟨10, ?_⟩
      have wb : ∀ (Q' : Int → ml_St → Prop) i, 0 ≤ i → i < L → Q' (mx_f W E X a i) σ → f_X1_weightBy σ a i Q' := fun Q' i i0 i1 hq => s_weightBy_x L6 P1 t16 (mt_nx_k f nx) (by rw [f 56 (by omega)]; exact lt) (pdk f) (by rw [e75]; exact eb) a0 a1 i0 i1 (by
        rw [f 56 (by omega), f 58 (by omega), ← hW, ← hX, e75]; exact hq)
      have I : ∀ (M : Nat) (i : Nat), (i : Int) < L → 6 - (i : Int) < M → f_X1_findCheapest_u42 Q (f_X1_findCheapest_u85 Q (f_X1_findCheapest_u36 Q (f_X1_findCheapest_u165 Q) N) (f_X1_findCheapest_u165 Q)) M σ t a (mx_am (mx_f W E X a) i) ((i : Int) + 1) := by
        intro M
        induction M with
        | zero => intro i i1 hM; omega
        | succ M ihM =>
          intro i i1 hM
          have am := mx_am_p (f := mx_f W E X a) i
          generalize hb : mx_am (mx_f W E X a) i = b at am ⊢
          obtain ⟨b0, b1, -, -⟩ := am
          unfold f_X1_findCheapest_u42
          rw [f 55 (by omega), nx.1]
          have nxt : ∀ b, (i : Int) + 1 < L → b = mx_am (mx_f W E X a) (i + 1) → f_X1_findCheapest_u79 Q (f_X1_findCheapest_u42 Q (f_X1_findCheapest_u85 Q (f_X1_findCheapest_u36 Q (f_X1_findCheapest_u165 Q) N) (f_X1_findCheapest_u165 Q)) M) σ t a b ((i : Int) + 1) := by
            intro b hi e
            unfold f_X1_findCheapest_u79
            refine ⟨mt_I (by omega) (by omega), fun y e2 => ?_⟩
            rw [e2, e]
            exact ihM (i + 1) (by omega) (by omega)
          refine fun _ => ⟨fun c => ?_, fun c => wb _ ((i : Int) + 1) (by omega) (by omega) (fun _ => wb _ b b0 (by omega) (fun _ => ⟨fun g => nxt b (by omega) ?_, fun g => nxt ((i : Int) + 1) (by omega) ?_⟩))⟩
          rotate_left
          · rw [mx_am_s, hb, if_neg (by omega)]
          · rw [mx_am_s, hb, if_pos (by omega)]
          have ei : i = (L - 1).toNat := by omega
          have eb' : b = mx_b L (mx_f W E X) X n := by unfold mx_b; rw [ha, ← ei, hb]
          have bL : b < L := by omega
          obtain ⟨l0, l1⟩ := lt b b0 bL
          obtain ⟨m1, m2, m3, m4⟩ := nx.2.2 a b a0 a1 b0 bL
          have hXb := hX a b
          rw [show 6 * a + b = a * 6 + b by omega] at m1 m2 hXb
          unfold f_X1_findCheapest_u85
          rw [f 56 (by omega), z5]
          refine fun _ => ⟨b0, by omega, fun _ => ⟨by omega, by omega, fun σ3 s3 => ?_⟩⟩
          have k3 : ∀ j, j ≠ 74 → σ3 j = σ j := fun j hj => by rw [s3, ml_up_k hj]
          have e74 : σ3 74 (n : Int) = σ0 56 b := by rw [s3, ml_up_same]
          rw [k3 70 (by omega), z5, e74]
          refine fun _ _ => ⟨by omega, by omega, fun _ => ⟨l0, by omega, ?_⟩⟩
          obtain ⟨d1, d2, d3⟩ := pd (σ0 56 b) l0 (by omega)
          rw [k3 _ (by omega), f _ (by omega), d1]
          refine fun _ => ⟨⟨by omega, by omega⟩, fun σ10 s10 => ?_⟩
          have e5 : σ10 70 5 = n := by rw [s10, ml_up_i (by omega), k3 70 (by omega), z5]
          rw [e5]
          refine fun _ => ⟨mt_I (by omega) (by omega), fun σ13 s13 => ⟨mt_I (by omega) (by omega), mt_I (by omega) (by omega), by omega, by omega, ?_⟩⟩
          have f13 : mt_f70 σ0 σ13 := by
            rw [s13, s10, s3]
            exact mt_f70_t f (mt_f70_t (mt_f70_t (mt_f70_up (by omega) (by omega)) (mt_f70_up (by omega) (by omega))) (mt_f70_up (by omega) (by omega)))
          have v5 : σ13 70 5 = ((n + 1 : Nat) : Int) := by rw [s13, ml_up_same]; omega
          have v6 : σ13 70 6 = σ 70 6 + pr (σ0 56 b) := by rw [s13, ml_up_i (by omega), s10, ml_up_same]
          have v6' : σ13 70 6 = mx_sp (fun j => pr (σ0 56 (mx_b L (mx_f W E X) X j))) (n + 1) := by
            rw [v6, z6, eb']; rfl
          have v75 : σ13 75 = E := by rw [s13, ml_up_k (by omega), s10, ml_up_k (by omega), k3 75 (by omega), e75]
          have v74 : ∀ j : Nat, j < n + 1 → σ13 74 j = σ0 56 (mx_b L (mx_f W E X) X j) := fun j hj => by
            rw [s13, ml_up_k (by omega), s10, ml_up_k (by omega), s3]
            by_cases w : j = n
            · rw [w, ml_up_same, eb']
            · rw [ml_up_i (by omega)]; exact z74 j (by omega)
          rw [f13 58 (by omega), v5, ← hXb]
          have pe : X a b = mx_pa L (mx_f W E X) X (n + 1) := by rw [mx_pa_s, ha, eb']
          rw [pe]
          rw [← hXb, pe] at m1 m2
          unfold f_X1_findCheapest_u165
          refine fun _ y17 e17 => ⟨fun c1 => kk σ13 (n + 1) E f13 ⟨eR, by omega, by omega, nt, Or.inl (by rw [← e17]; exact c1)⟩ v5 v6' v74, fun c1 _ => ⟨fun c2 => ?_, fun c2 => kk σ13 (n + 1) E f13 ⟨eR, by omega, by omega, nt, Or.inr (by omega)⟩ v5 v6' v74⟩⟩
          subst e17
          refine ih (n + 1) σ13 (by omega) (by omega) f13 v75 v5 v6' (by omega) (by omega) v74 (fun j j1 j2 => ?_) (by omega) m2
          by_cases w : j = n + 1
          · rw [w]; exact c1
          · exact nt j j1 (by omega)
      exact I 10 0 (by omega) (by omega)
  have f6 : mt_f70 σ0 σ6 := mt_f70_t f2 (mt_f70_t f4 (by rw [s6, s5]; exact mt_f70_t (mt_f70_up (by omega) (by omega)) (mt_f70_up (by omega) (by omega))))
  have w5 : σ6 70 5 = 0 := by rw [s6, ml_up_i (by omega), s5, ml_up_same]
  have w6 : σ6 70 6 = 0 := by rw [s6, ml_up_same]
  exact D 2850 0 σ6 (by omega) (by omega) f6 (by rw [s6, ml_up_k (by omega), s5, ml_up_k (by omega), hE]) w5 w6 (by omega) (by omega) (fun j hj => absurd hj (by omega)) (fun j h1 h2 => by omega) (Int.le_refl 0) P0
theorem c_cheapest {Q : Int → ml_St → Prop} {h told ts cap set w x : Int} {tb cl pr sz : Int → Int} {T : Int → Int → Int} {σ0 : ml_St} (i : IC h told ts cap tb cl pr sz T σ0) (k0 : ¬ (mt_ls told (mt_mk h T sz) set ∧ mt_md told (mt_mk h T sz) w ∧ -2 ≤ x) → Q (-1) σ0) (k1 : mt_ls told (mt_mk h T sz) set → mt_md told (mt_mk h T sz) w → -2 ≤ x → ∀ σ L P l S nx mo, IC h told ts cap tb cl pr sz T σ → (∀ j, 215 ≤ j → σ j = σ0 j) → ms_C h told (mt_mk h T sz) set L P l S nx mo → (∀ p, 1 ≤ p → p < P → ¬ mt_eq h (S p) (mt_mk h T sz w)) → Q (-1) σ) (k2 : mt_ls told (mt_mk h T sz) set → mt_md told (mt_mk h T sz) w → -2 ≤ x → ∀ σ L P l S nx mo t W (n : Nat) E, IC h told ts cap tb cl pr sz T σ → (∀ j, 215 ≤ j → σ j = σ0 j) → ms_C h told (mt_mk h T sz) set L P l S nx mo → 1 ≤ t → t < P → mt_eq h (S t) (mt_mk h T sz w) → (∀ i, W i = pr (l i) * 1048576 + 1) → mx_cz P L t W nx n E → Q (mx_an L pr l W E nx n x) σ) : f_X11_cheapest σ0 set w x Q := by
  have t16 := i.1.2.2.2.2.2
  unfold f_X11_cheapest f_X11_cheapest_u0
  unfold f_X11_cheapest_u22 f_X11_cheapest_u91
  refine c_isMade i (fun q _ => ⟨fun z => absurd z (by omega), fun _ => ⟨fun z => k0 (fun y => by omega), fun hx => s_openLetters i (fun no _ => ⟨fun z => absurd rfl z, fun _ => k0 (fun y => no y.1)⟩) (fun ls σ iσ g X eset f _ => ⟨fun _ => ⟨q.1, by have := q.2.1; omega, ?_⟩, fun z => absurd z (by omega)⟩)⟩⟩) (fun no _ => ⟨fun _ => k0 (fun y => no y.2.1), fun z => absurd rfl z⟩)
  have hx : -2 ≤ x := by omega
  have kk1 := k1 ls q hx
  have kk2 := k2 ls q hx
  clear k0 k1 k2
  obtain ⟨w1, w2, w3, w4⟩ := IC_w iσ q.1 q.2.1
  have h2 := iσ.1.2.2.1
  have h5 := iσ.1.2.2.2.1
  rw [iσ.1.1, show 119 + 6 * w + 2 = 121 + 6 * w by omega]
  have num := mt_num_lt h2 h5 w3
  refine fun _ => s_number h2 h5 w3 (mt_eq_wa w2).1 (fun _ => ⟨by omega, by omega, fun _ y10 e10 => ?_⟩)
  obtain ⟨g1, g2, g3, g4, g5, g6, g7, g8, g9, g10⟩ := id g
  have g6' := g6 (mt_num h (mt_mk h T sz w)) (by omega) (by omega)
  obtain ⟨S, Y, C⟩ := ms_C_i g X
  rw [eset] at C
  obtain ⟨y1, y2, y3, y4, y5⟩ := id Y
  have SM := y1.2.2.1
  have fin : ∀ σ11, mt_f70 σ σ11 → IC h told ts cap tb cl pr sz T σ11 ∧ ∀ j, 215 ≤ j → σ11 j = σ0 j := fun σ11 f11 => ⟨IC_kp (mt_f70_kp f11) iσ, fun j hj => by rw [f11 j (by omega), f j (by omega)]⟩
  refine s_findCheapest (told := told) (pr := pr) (W := fun i => pr (σ 56 i) * 1048576 + 1) (X := fun p a => σ 58 (6 * p + a)) g1 g2 g4 g5 t16 (ic_G_nx g) g3 iσ.2.2.2.1 (fun _ => rfl) (fun _ _ => rfl) (by omega) (fun e σ11 f11 z5 z6 => ?_) (fun t0 t1 σ11 n E f11 cz z5 z6 z74 => ?_)
  · obtain ⟨i11, fr⟩ := fin σ11 f11
    have no := kk1 σ11 _ _ _ _ _ _ i11 fr C (fun p p1 p2 eq => by
      have a := y4 p p1 p2
      rw [mt_num_e h2 h5 (SM p (by omega) p2) eq] at a
      omega)
    refine ⟨fun _ => s_answer_x (by omega) ?_, fun _ _ => by rw [z6]; exact no⟩
    rw [z5]
    by_cases w : x = -1
    · rw [if_pos w]; exact fun _ => no
    · rw [if_neg w, if_neg (by omega)]; exact fun _ => no
  · obtain ⟨i11, fr⟩ := fin σ11 f11
    have eqt : mt_eq h (S y10) (mt_mk h T sz w) := by
      have a := y5 (mt_num h (mt_mk h T sz w)) (by omega) (by omega) (by omega)
      rw [← e10] at a
      exact mt_num_inj h2 h5 (SM y10 (by omega) t1) w3 (by omega)
    have yes := kk2 σ11 _ _ _ _ _ _ y10 _ n E i11 fr C t0 t1 eqt (fun _ => rfl) cz
    unfold mx_an at yes
    have n2 := cz.2.2.1
    refine ⟨fun z => s_answer_x (by omega) ?_, fun z _ => ?_⟩
    · rw [if_neg z] at yes
      rw [z5]
      by_cases w : x = -1
      · rw [if_pos w] at yes ⊢; exact fun _ => yes
      · rw [if_neg w] at yes ⊢
        by_cases v : 0 ≤ x ∧ x < n
        · rw [if_pos v] at yes ⊢
          have := z74 x.toNat (by omega)
          rw [show ((x.toNat : Nat) : Int) = x by omega] at this
          rw [this]
          exact fun _ => yes
        · rw [if_neg v] at yes ⊢; exact fun _ => yes
    · rw [if_pos z] at yes
      rw [z6]; exact yes
