/-! the class: many, made (that they end) -/
theorem ic_G_k {h told : Int} {σ σ' : ml_St} (e0 : ∀ b, b ≠ 11 → σ' 55 b = σ 55 b) (r0 : 0 ≤ σ' 55 11) (r1 : σ' 55 11 ≤ 1000) (e : ∀ j, (j = 56 ∨ j = 57 ∨ j = 58 ∨ j = 59 ∨ j = 61) → σ' j = σ j) (g : ic_G h told σ) : ic_G h told σ' := by
  unfold ic_G at g ⊢
  rw [e0 1 (by omega), e0 2 (by omega), e 56 (by omega), e 57 (by omega), e 58 (by omega), e 59 (by omega), e 61 (by omega)]
  obtain ⟨g1, g2, g3, g4, g5, g6, g7, g8, g9, g10⟩ := g
  exact ⟨g1, g2, g3, g4, g5, g6, g7, g8, r0, r1⟩
theorem s_closeAll {Q : ml_St → Prop} {h told : Int} {cl : Int → Int} {σ0 : ml_St} (h2 : 2 ≤ h) (h5 : h ≤ 5) (g : ic_G h told σ0) (hc : mt_M h cl) (ec : mt_eq h (σ0 5) cl) (k : ∀ σ, (∀ j, j ≠ 60 → j ≠ 65 → σ j = σ0 j) → (∀ p, 0 ≤ p → p < σ0 55 2 → 0 ≤ σ 60 p ∧ σ 60 p ≤ 10) → Q σ) : f_X7_closeAll σ0 h Q := by
  obtain ⟨g1, g2, g3, g4, g5, g6, g7, g8, g9, g10⟩ := g
  have L : ∀ (N : Nat) (p : Int) (σ : ml_St), 0 ≤ p → p ≤ σ0 55 2 → σ0 55 2 - p < N → (∀ j, j ≠ 60 → j ≠ 65 → σ j = σ0 j) → (∀ q, 0 ≤ q → q < p → 0 ≤ σ 60 q ∧ σ 60 q ≤ 10) → f_X7_closeAll_u2 Q (f_X7_closeAll_u52 Q) N σ h p := by
    intro N
    induction N with
    | zero => intro p σ p0 p1 hN; omega
    | succ N ih =>
      intro p σ p0 p1 hN f hq
      unfold f_X7_closeAll_u2
      unfold f_X7_closeAll_u52
      rw [f 55 (by omega) (by omega)]
      refine fun _ => ⟨fun _ => k σ f (fun q q0 q1 => hq q q0 (by omega)), fun c => ⟨mt_I (by omega) (by omega), by omega, by omega, by omega, by omega, by omega, fun σ4 s4 => ?_⟩⟩
      obtain ⟨v, v1, v2⟩ := g8 p p0 (by omega)
      have e65 : mt_eq h (σ4 (64 + 1)) v := fun e e0 e1 => by
        rw [s4, mt_cpy2, if_pos ⟨by omega, e0, by omega⟩, show p * 10 + (e - 0) = 10 * p + e by omega, f 61 (by omega) (by omega)]
        exact v2 e e0 e1
      refine s_loopsBy h2 h5 v1 hc e65 (fun e e0 e1 => by rw [s4, mt_cpy_k (by omega), f 5 (by omega) (by omega)]; exact ec e e0 e1) ?_
      have cb := mt_lbs_C (α := v) (β := cl) h5 v1 hc (2 * h).toNat (by omega)
      have c0 : 0 ≤ mt_cl h v cl ∧ mt_cl h v cl ≤ 10 := ⟨cb.2.1, by have := cb.2.2.1; unfold mt_cl; omega⟩
      refine fun _ => ⟨p0, by omega, fun σ6 s6 => ⟨mt_I (by omega) (by omega), fun y e => ?_⟩⟩
      subst e
      refine ih (p + 1) σ6 (by omega) (by omega) (by omega) (fun j h1 h3 => by rw [s6, ml_up_k h1, s4, mt_cpy_k h3, f j h1 h3]) (fun q q0 q1 => ?_)
      rw [s6]
      by_cases z : q = p
      · rw [z, ml_up_same]; exact c0
      · rw [ml_up_i z, s4, mt_cpy_k (by omega)]; exact hq q q0 (by omega)
  unfold f_X7_closeAll f_X7_closeAll_u0
  exact ⟨950, L 950 0 σ0 (by omega) (by omega) (by omega) (fun _ _ _ => rfl) (fun q q0 q1 => absurd q1 (by omega))⟩
/-- letters, places and where they lead -/
def mt_nx (L P : Int) (σ : ml_St) : Prop := σ 55 1 = L ∧ σ 55 2 = P ∧ ∀ p i, 0 ≤ p → p < P → 0 ≤ i → i < L → 1 ≤ σ 58 (6 * p + i) ∧ σ 58 (6 * p + i) < P ∧ 0 ≤ σ 59 (6 * p + i) ∧ σ 59 (6 * p + i) ≤ 3
theorem s_spread {Q : ml_St → Prop} {L P f : Int} {σ0 : ml_St} (L1 : 1 ≤ L) (L6 : L ≤ 6) (P1 : P ≤ 946) (n : mt_nx L P σ0) (f0 : 0 ≤ f) (f1 : f < P) (k : ∀ σ, (∀ j, j ≠ 63 → σ j = σ0 j) → Q σ) : f_X7_spread σ0 f Q := by
  obtain ⟨n1, n2, n3⟩ := n
  have O : ∀ (N : Nat) (i : Int) (σ : ml_St), 0 ≤ i → i ≤ L → L - i < N → (∀ j, j ≠ 63 → σ j = σ0 j) → f_X7_spread_u5 Q (f_X7_spread_u85 Q) N σ f (f * 6 + i) := by
    intro N
    induction N with
    | zero => intro i σ i0 i1 hN; omega
    | succ N ih =>
      intro i σ i0 i1 hN fr
      unfold f_X7_spread_u5
      unfold f_X7_spread_u85
      rw [fr 55 (by omega), n1]
      refine ⟨mt_I (by omega) (by omega), fun _ => ⟨mt_I (by omega) (by omega), fun _ => k σ fr, fun c => ⟨by omega, by omega, ?_⟩⟩⟩
      obtain ⟨m1, m2, m3, m4⟩ := n3 f i f0 f1 i0 (by omega)
      rw [show 6 * f + i = f * 6 + i by omega] at m1 m2 m3 m4
      rw [fr 58 (by omega), fr 59 (by omega)]
      refine fun _ => ⟨mt_I (by omega) (by omega), by omega, by omega, fun _ => ⟨mt_I (by omega) (by omega), fun y9 e9 => ⟨10, ?_⟩⟩⟩
      have I : ∀ (M : Nat) (x : Int) (σ : ml_St), 0 ≤ x → x ≤ 3 → 3 - x < M → (∀ j, j ≠ 63 → σ j = σ0 j) → f_X7_spread_u37 Q (f_X7_spread_u79 Q (f_X7_spread_u5 Q (f_X7_spread_u85 Q) N)) M σ f (f * 6 + i) y9 x := by
        intro M
        induction M with
        | zero => intro x σ x0 x1 hM; omega
        | succ M ihM =>
          intro x σ x0 x1 hM fr
          unfold f_X7_spread_u37
          rw [fr 59 (by omega)]
          refine ⟨by omega, by omega, fun _ => ⟨mt_I (by omega) (by omega), fun _ => ?_, fun c3 => ⟨mt_I (by omega) (by omega), by omega, by omega, fun _ => ⟨mt_I (by omega) (by omega), mt_I (by omega) (by omega), by omega, by omega, fun _ => ⟨by omega, by omega, fun σ10 s10 => ⟨mt_I (by omega) (by omega), fun y e => ?_⟩⟩⟩⟩⟩⟩
          · unfold f_X7_spread_u79
            refine ⟨mt_I (by omega) (by omega), fun y e => ?_⟩
            have e : y = f * 6 + (i + 1) := by omega
            subst e
            exact ih (i + 1) σ (by omega) (by omega) (by omega) fr
          · subst e
            exact ihM (x + 1) σ10 (by omega) (by omega) (by omega) (fun j hj => by rw [s10, ml_up_k hj, fr j hj])
      exact I 10 0 σ (by omega) (by omega) (by omega) fr
  unfold f_X7_spread f_X7_spread_u0
  refine ⟨mt_I (by omega) (by omega), fun y e => ⟨10, ?_⟩⟩
  have := O 10 0 σ0 (by omega) (by omega) (by omega) (fun _ _ => rfl)
  rw [Int.add_zero] at this
  rw [e]; exact this
theorem s_lengthenRow {Q : ml_St → Prop} {L P : Int} {σ0 : ml_St} (L1 : 1 ≤ L) (L6 : L ≤ 6) (P0 : 1 ≤ P) (P1 : P ≤ 946) (n : mt_nx L P σ0) (k : ∀ σ, (∀ j, j ≠ 62 → j ≠ 63 → σ j = σ0 j) → Q σ) : f_X7_lengthenRow σ0 Q := by
  have nk : ∀ σ : ml_St, (∀ j, j ≠ 62 → j ≠ 63 → σ j = σ0 j) → mt_nx L P σ := fun σ f => by
    unfold mt_nx; rw [f 55 (by omega) (by omega), f 58 (by omega) (by omega), f 59 (by omega) (by omega)]; exact n
  have L2 : ∀ (N : Nat) (p : Int) (σ : ml_St), 0 ≤ p → p ≤ P * 3 → P * 3 - p < N → (∀ j, j ≠ 62 → j ≠ 63 → σ j = σ0 j) → f_X7_lengthenRow_u31 Q (f_X7_lengthenRow_u63 Q) N σ p := by
    intro N
    induction N with
    | zero => intro p σ p0 p1 hN; omega
    | succ N ih =>
      intro p σ p0 p1 hN f
      unfold f_X7_lengthenRow_u31
      unfold f_X7_lengthenRow_u63
      rw [(nk σ f).2.1]
      refine fun _ => ⟨mt_I (by omega) (by omega), fun _ => k σ f, fun c => ⟨p0, by omega, fun _ => ⟨by omega, p0, by omega, fun σ6 s6 => ⟨mt_I (by omega) (by omega), fun y e => ?_⟩⟩⟩⟩
      subst e
      exact ih (p + 1) σ6 (by omega) (by omega) (by omega) (fun j h1 h2 => by rw [s6, ml_up_k h1, f j h1 h2])
  have L0 : ∀ (N : Nat) (p : Int) (σ : ml_St), 0 ≤ p → p ≤ P → P - p < N → (∀ j, j ≠ 62 → j ≠ 63 → σ j = σ0 j) → f_X7_lengthenRow_u10 Q (f_X7_lengthenRow_u29 Q) N σ p := by
    intro N
    induction N with
    | zero => intro p σ p0 p1 hN; omega
    | succ N ih =>
      intro p σ p0 p1 hN f
      unfold f_X7_lengthenRow_u10
      rw [(nk σ f).2.1]
      refine fun _ => ⟨fun c => ?_, fun c => s_spread L1 L6 P1 (nk σ f) p0 (by omega) (fun σ3 f3 => ⟨mt_I (by omega) (by omega), fun y e => ?_⟩)⟩
      · unfold f_X7_lengthenRow_u29
        exact ⟨3000, L2 3000 0 σ (by omega) (by omega) (by omega) f⟩
      · subst e
        exact ih (p + 1) σ3 (by omega) (by omega) (by omega) (fun j h1 h2 => by rw [f3 j h2, f j h1 h2])
  unfold f_X7_lengthenRow f_X7_lengthenRow_u0
  exact s_fill64 (by omega) (fun σ1 f1 _ => ⟨950, L0 950 0 σ1 (by omega) (by omega) (by omega) (fun j h1 h2 => f1 j h2)⟩)
theorem s_howMany7 {Q : Int → ml_St → Prop} {L P n x : Int} {σ0 : ml_St} (L1 : 1 ≤ L) (L6 : L ≤ 6) (P0 : 1 ≤ P) (P1 : P ≤ 946) (nx : mt_nx L P σ0) (n0 : 1 ≤ n) (n1 : n ≤ 1000) (r0 : 0 ≤ σ0 55 11) (r1 : σ0 55 11 ≤ 1000) (cl : ∀ p, 0 ≤ p → p < P → 0 ≤ σ0 60 p ∧ σ0 60 p ≤ 10) (k : ∀ r σ, (∀ j, j ≠ 55 → j ≠ 62 → j ≠ 63 → σ j = σ0 j) → (∀ b, b ≠ 11 → σ 55 b = σ0 55 b) → 0 ≤ σ 55 11 → σ 55 11 ≤ 1000 → Q r σ) : f_X7_howMany σ0 n x Q := by
  have U : ∀ σ : ml_St, (∀ j, j ≠ 55 → j ≠ 62 → j ≠ 63 → σ j = σ0 j) → (∀ b, b ≠ 11 → σ 55 b = σ0 55 b) → 0 ≤ σ 55 11 → σ 55 11 ≤ 1000 → f_X7_howMany_u37 Q σ x := by
    intro σ f fb q0 q1
    have S : ∀ (N : Nat) (p s : Int), 0 ≤ p → p ≤ P * 3 → P * 3 - p < N → f_X7_howMany_u42 Q (f_X7_howMany_u87 Q) N σ x s p := by
      intro N
      induction N with
      | zero => intro p s p0 p1 hN; omega
      | succ N ih =>
        intro p s p0 p1 hN
        have td : Int.tdiv p 3 = p / 3 := Int.tdiv_eq_ediv_of_nonneg p0
        have tm : Int.tmod p 3 = p % 3 := Int.tmod_eq_emod_of_nonneg p0
        have nxt : ∀ s, p < P * 3 → f_X7_howMany_u81 Q (f_X7_howMany_u42 Q (f_X7_howMany_u87 Q) N) σ x s p := by
          intro s hp
          unfold f_X7_howMany_u81
          refine ⟨mt_I (by omega) (by omega), fun y e => ?_⟩
          subst e
          exact ih (p + 1) s (by omega) (by omega) (by omega)
        unfold f_X7_howMany_u42
        unfold f_X7_howMany_u87
        rw [fb 2 (by omega), nx.2.1, td, tm, f 60 (by omega) (by omega) (by omega)]
        refine fun _ => ⟨mt_I (by omega) (by omega), fun _ => ⟨by omega, k _ σ f fb q0 q1⟩, fun c => ?_⟩
        have := cl (p / 3) (by omega) (by omega)
        exact ⟨by omega, mt_I (by omega) (by omega), by omega, mt_I (by omega) (by omega), by omega, by omega, fun _ => ⟨mt_I (by omega) (by omega), fun _ => nxt _ (by omega), fun _ => ⟨p0, by omega, fun _ _ _ => nxt _ (by omega)⟩⟩⟩
    unfold f_X7_howMany_u37
    exact ⟨3000, S 3000 0 0 (by omega) (by omega) (by omega)⟩
  have G : ∀ (N : Nat) (σ : ml_St), (∀ j, j ≠ 55 → j ≠ 62 → j ≠ 63 → σ j = σ0 j) → (∀ b, b ≠ 11 → σ 55 b = σ0 55 b) → 0 ≤ σ 55 11 → σ 55 11 ≤ 1000 → 1001 - σ 55 11 < N → f_X7_howMany_u12 Q (f_X7_howMany_u37 Q) N σ n x := by
    intro N
    induction N with
    | zero => intro σ _ _ _ h hN; omega
    | succ N ih =>
      intro σ f fb q0 q1 hN
      unfold f_X7_howMany_u12
      have nxσ : mt_nx L P σ := by unfold mt_nx; rw [fb 1 (by omega), fb 2 (by omega), f 58 (by omega) (by omega) (by omega), f 59 (by omega) (by omega) (by omega)]; exact nx
      refine fun _ => ⟨fun _ => U σ f fb q0 q1, fun c => s_lengthenRow L1 L6 P0 P1 nxσ (fun σ3 f3 => ?_)⟩
      rw [f3 55 (by omega) (by omega)]
      refine fun _ => ⟨mt_I (by omega) (by omega), fun σ6 s6 => ?_⟩
      exact ih σ6 (fun j h1 h2 h3 => by rw [s6, ml_up_k h1, f3 j h2 h3, f j h1 h2 h3]) (fun b hb => by rw [s6, ml_up_i hb, f3 55 (by omega) (by omega), fb b hb]) (by rw [s6, ml_up_same]; omega) (by rw [s6, ml_up_same]; omega) (by rw [s6, ml_up_same]; omega)
  unfold f_X7_howMany f_X7_howMany_u0
  refine fun _ => ⟨fun _ => ⟨1010, G 1010 σ0 (fun _ _ _ _ => rfl) (fun _ _ => rfl) r0 r1 (by omega)⟩, fun _ => s_startRow (fun σ3 f3 fb3 z3 => ⟨1010, G 1010 σ3 (fun j h1 h2 _ => f3 j h1 h2) fb3 (by omega) (by omega) (by omega)⟩)⟩
theorem ic_G_nx {h told : Int} {σ : ml_St} (g : ic_G h told σ) : mt_nx (σ 55 1) (σ 55 2) σ := ⟨rfl, rfl, g.2.2.2.2.2.2.1⟩
theorem c_many {Q : Int → ml_St → Prop} {h told ts cap set n x : Int} {tb cl pr sz : Int → Int} {T : Int → Int → Int} {σ0 : ml_St} (i : IC h told ts cap tb cl pr sz T σ0) (k : ∀ r σ, IC h told ts cap tb cl pr sz T σ → (∀ j, 215 ≤ j → σ j = σ0 j) → Q r σ) : f_X11_many σ0 set n x Q := by
  have no : ∀ r, Q r σ0 := fun r => k r σ0 i (fun _ _ => rfl)
  unfold f_X11_many f_X11_many_u0
  unfold f_X11_many_u29
  refine ⟨fun _ => no _, fun q1 => ⟨fun _ => no _, fun q2 => ⟨fun _ => no _, fun _ => ⟨fun _ => no _, fun _ => s_openLetters i (fun _ => ⟨fun z => absurd rfl z, fun _ => no _⟩) (fun σ iσ g f _ => ⟨fun _ => ?_, fun z => absurd z (by omega)⟩)⟩⟩⟩⟩
  have c := iσ.2.2.1
  rw [iσ.1.1]
  refine fun _ => s_closeAll iσ.1.2.2.1 iσ.1.2.2.2.1 g c.2.2.2.1 c.2.2.1 (fun σ8 f8 c8 => ?_)
  have e55 : σ8 55 = σ 55 := f8 55 (by omega) (by omega)
  have nx8 : mt_nx (σ 55 1) (σ 55 2) σ8 := by unfold mt_nx; rw [e55, f8 58 (by omega) (by omega), f8 59 (by omega) (by omega)]; exact ic_G_nx g
  obtain ⟨g1, g2, g3, g4, g5, g6, g7, g8, g9, g10⟩ := id g
  refine s_howMany7 g1 g2 g4 g5 nx8 (by omega) (by omega) (by rw [e55]; exact g9) (by rw [e55]; exact g10) c8 (fun r σ9 f9 fb9 z0 z1 _ => ?_)
  have fs : mt_fs σ σ9 := fun j hj => by rw [f9 j (by omega) (by omega) (by omega), f8 j (by omega) (by omega)]
  refine k r σ9 (IC_fs fs ?_ iσ) (fun j hj => by rw [fs j (by omega), f j (by omega)])
  rcases iσ.2.2.2.2.2.2 with z | z
  · left; rw [fb9 0 (by omega), e55]; exact z
  · right
    refine ⟨z.1, ic_G_k (fun b hb => by rw [fb9 b hb, e55]) z0 z1 (fun j hj => by rw [f9 j (by omega) (by omega) (by omega), f8 j (by omega) (by omega)]) g⟩
theorem c_made {Q : Int → ml_St → Prop} {h told ts cap set : Int} {tb cl pr sz : Int → Int} {T : Int → Int → Int} {σ0 : ml_St} (i : IC h told ts cap tb cl pr sz T σ0) (k : ∀ r σ, IC h told ts cap tb cl pr sz T σ → (∀ j, 215 ≤ j → σ j = σ0 j) → Q r σ) : f_X11_made σ0 set Q := by
  have no : ∀ r, Q r σ0 := fun r => k r σ0 i (fun _ _ => rfl)
  unfold f_X11_made f_X11_made_u0
  unfold f_X11_made_u21
  refine s_openLetters i (fun _ => ⟨fun _ => no _, fun z => absurd rfl z⟩) (fun σ iσ g f _ => ⟨fun z => absurd z (by omega), fun _ _ => ⟨?_, k _ σ iσ (fun j hj => f j (by omega))⟩⟩)
  obtain ⟨g1, g2, g3, g4, g5, g6, g7, g8, g9, g10⟩ := g
  exact mt_I (by omega) (by omega)
