/-! the class: shortest, cheapest (that they end) -/
def mt_f70 (σ σ' : ml_St) : Prop := ∀ j, (j < 70 ∨ 75 < j) → σ' j = σ j
theorem mt_f70_t {σ σ1 σ2 : ml_St} (a : mt_f70 σ σ1) (b : mt_f70 σ1 σ2) : mt_f70 σ σ2 := fun j hj => by rw [b j hj, a j hj]
theorem mt_f70_up {k i v : Int} {σ : ml_St} (h1 : 70 ≤ k) (h2 : k ≤ 75) : mt_f70 σ (ml_up σ k i v) := fun j hj => ml_up_k (by omega)
theorem s_answer {Q : Int → ml_St → Prop} {x : Int} {σ : ml_St} (s1 : σ 70 5 ≤ 2838) (k : ∀ r, Q r σ) : f_X1_answer σ x Q := by
  unfold f_X1_answer f_X1_answer_u0
  unfold f_X1_answer_u31 f_X1_answer_u32
  exact ⟨fun _ => ⟨fun _ => k _, fun _ _ => ⟨fun _ => k _, fun _ => ⟨by omega, by omega, fun _ => k _⟩⟩⟩, fun _ _ => k _⟩
/-- states that were come to lead back to such -/
def mt_vs (M : Int) (σ : ml_St) : Prop := σ 72 0 ≠ -1 ∧ ∀ s, 0 ≤ s → s < 2838 → -1 ≤ σ 72 s ∧ σ 72 s < M ∧ (σ 72 s ≠ -1 → σ 72 (σ 72 s) ≠ -1)
theorem s_traceBack {Q : ml_St → Prop} {M s : Int} {σ0 : ml_St} (M1 : M ≤ 2838) (v : mt_vs M σ0) (s0 : 0 ≤ s) (s1 : s < M) (sv : σ0 72 s ≠ -1) (k : ∀ σ, (∀ j, j ≠ 70 → j ≠ 74 → σ j = σ0 j) → 0 ≤ σ 70 5 → σ 70 5 ≤ 2838 → Q σ) : f_X1_traceBack σ0 s Q := by
  obtain ⟨v0, vs⟩ := v
  have B : ∀ (N : Nat) (a i : Int) (σ : ml_St), 0 ≤ a → a < M → σ0 72 a ≠ -1 → -1 ≤ i → i < 2838 → i + 1 < N → (∀ j, j ≠ 70 → j ≠ 74 → σ j = σ0 j) → 0 ≤ σ 70 5 → σ 70 5 ≤ 2838 → f_X1_traceBack_u50 Q (f_X1_traceBack_u79 Q) N σ a i := by
    intro N
    induction N with
    | zero => intro a i σ _ _ _ i0 i1 hN; omega
    | succ N ih =>
      intro a i σ a0 a1 av i0 i1 hN f z0 z1
      unfold f_X1_traceBack_u50
      unfold f_X1_traceBack_u79
      refine ⟨fun _ => k σ f z0 z1, fun c => ⟨a0, by omega, fun _ => ⟨by omega, by omega, fun σ3 s3 => ⟨a0, by omega, fun _ y5 e5 => ⟨mt_I (by omega) (by omega), fun y6 e6 => ?_⟩⟩⟩⟩⟩
      have k3 : ∀ j, j ≠ 74 → σ3 j = σ j := fun j hj => by rw [s3, ml_up_k hj]
      rw [k3 72 (by omega), f 72 (by omega) (by omega)] at e5
      obtain ⟨x1, x2, x3⟩ := vs a a0 (by omega)
      have e6 : y6 = i - 1 := by omega
      subst e6
      refine ih y5 (i - 1) σ3 (by omega) (by omega) (by rw [e5]; exact x3 av) (by omega) (by omega) (by omega) (fun j h1 h2 => by rw [k3 j h2, f j h1 h2]) (by rw [k3 70 (by omega)]; exact z0) (by rw [k3 70 (by omega)]; exact z1)
  have A : ∀ (N : Nat) (a : Int) (σ : ml_St), 0 ≤ a → a < M → σ0 72 a ≠ -1 → (∀ j, j ≠ 70 → σ j = σ0 j) → 0 ≤ σ 70 5 → σ 70 5 ≤ 2838 → 2839 - σ 70 5 < N → f_X1_traceBack_u7 Q (f_X1_traceBack_u41 Q) N σ s a := by
    intro N
    induction N with
    | zero => intro a σ _ _ _ _ _ _ hN; omega
    | succ N ih =>
      intro a σ a0 a1 av f z0 z1 hN
      have OUT : f_X1_traceBack_u41 Q σ s := by
        unfold f_X1_traceBack_u41
        refine fun _ => ⟨mt_I (by omega) (by omega), fun y3 e3 => ⟨2850, ?_⟩⟩
        exact B 2850 s y3 σ s0 s1 sv (by omega) (by omega) (by omega) (fun j h1 _ => f j h1) z0 z1
      unfold f_X1_traceBack_u7
      refine ⟨fun _ => OUT, fun c _ => ⟨fun _ => OUT, fun c2 _ => ⟨mt_I (by omega) (by omega), fun σ6 s6 => ⟨a0, by omega, fun _ y8 e8 => ?_⟩⟩⟩⟩
      rw [s6, ml_up_k (by omega), f 72 (by omega)] at e8
      obtain ⟨x1, x2, x3⟩ := vs a a0 (by omega)
      exact ih y8 σ6 (by omega) (by omega) (by rw [e8]; exact x3 av) (fun j hj => by rw [s6, ml_up_k hj, f j hj]) (by rw [s6, ml_up_same]; omega) (by rw [s6, ml_up_same]; omega) (by rw [s6, ml_up_same]; omega)
  unfold f_X1_traceBack f_X1_traceBack_u0
  intro σ1 g1
  exact ⟨2850, A 2850 s σ1 s0 s1 sv (fun j hj => by rw [g1, ml_up_k hj]) (by rw [g1, ml_up_same]; omega) (by rw [g1, ml_up_same]; omega) (by rw [g1, ml_up_same]; omega)⟩
def mt_qs (M : Int) (tail : Int) (σ : ml_St) : Prop := mt_vs M σ ∧ 1 ≤ tail ∧ tail ≤ 2838 ∧ (∀ j, 0 ≤ j → j < tail → 0 ≤ σ 71 j ∧ σ 71 j < M ∧ σ 72 (σ 71 j) ≠ -1) ∧ (∀ i j, 0 ≤ i → i < j → j < tail → σ 71 i ≠ σ 71 j) ∧ -1 ≤ σ 70 5 ∧ σ 70 5 ≤ 2838
theorem mt_qs_room {M tail s : Int} {σ : ml_St} (M1 : M ≤ 2838) (q : mt_qs M tail σ) (s0 : 0 ≤ s) (s1 : s < M) (sv : σ 72 s = -1) : tail < 2838 := by
  obtain ⟨v, t0, t1, q1, q2, q3, q4⟩ := q
  rcases Int.lt_or_le tail 2838 with c | c
  · exact c
  · exfalso
    obtain ⟨i, j, hij, hj, e⟩ := mt_ph 2838 (fun i => if i < 2838 then σ 71 i else s) (fun i hi => by
      show 0 ≤ (if i < 2838 then σ 71 i else s) ∧ (if i < 2838 then σ 71 i else s) < ((2838 : Nat) : Int)
      split
      · rename_i z; have := q1 i (by omega) (by omega); omega
      · omega)
    have e : (if i < 2838 then σ 71 i else s) = (if j < 2838 then σ 71 j else s) := e
    rw [if_pos (by omega)] at e
    by_cases z : j < 2838
    · rw [if_pos z] at e
      exact q2 i j (by omega) (by omega) (by omega) e
    · rw [if_neg z] at e
      have := (q1 i (by omega) (by omega)).2.2
      rw [e] at this
      exact this sv
theorem s_findShortest {Q : ml_St → Prop} {L P x : Int} {σ0 : ml_St} (L1 : 1 ≤ L) (L6 : L ≤ 6) (P0 : 1 ≤ P) (P1 : P ≤ 946) (nx : mt_nx L P σ0) (cl : ∀ p, 0 ≤ p → p < P → 0 ≤ σ0 60 p ∧ σ0 60 p ≤ 10) (k : ∀ σ, mt_f70 σ0 σ → σ 70 5 ≤ 2838 → Q σ) : f_X1_findShortest σ0 x Q := by
  obtain ⟨n1, n2, n3⟩ := nx
  have H : ∀ (N : Nat) (hd tail : Int) (σ : ml_St), 0 ≤ hd → hd ≤ 2838 → 2838 - hd < N → mt_f70 σ0 σ → mt_qs (3 * P) tail σ → f_X1_findShortest_u32 Q (f_X1_findShortest_u215 Q) N σ x tail hd := by
    intro N
    induction N with
    | zero => intro hd tail σ h0 h1 hN; omega
    | succ N ih =>
      intro hd tail σ h0 h1 hN f q
      have q' := q
      obtain ⟨v, t0, t1, q1, q2, q3, q4⟩ := q
      have OUT : f_X1_findShortest_u215 Q σ := by unfold f_X1_findShortest_u215; exact k σ f q4
      unfold f_X1_findShortest_u32
      refine ⟨fun _ => OUT, fun c1 => ⟨fun _ => OUT, fun c2 _ => ⟨fun _ => OUT, fun c3 => ⟨h0, by omega, fun _ y6 e6 => ?_⟩⟩⟩⟩
      obtain ⟨a0, a1, a2⟩ := q1 hd h0 (by omega)
      rw [← e6] at a0 a1 a2
      have td : Int.tdiv y6 3 = y6 / 3 := Int.tdiv_eq_ediv_of_nonneg a0
      have tm : Int.tmod y6 3 = y6 % 3 := Int.tmod_eq_emod_of_nonneg a0
      rw [td]
      refine ⟨by omega, mt_I (by omega) (by omega), fun y8 e8 => ⟨10, ?_⟩⟩
      have I : ∀ (M : Nat) (i tail : Int) (σ : ml_St), 0 ≤ i → i ≤ L → L - i < M → mt_f70 σ0 σ → mt_qs (3 * P) tail σ → σ 72 y6 ≠ -1 → f_X1_findShortest_u72 Q (f_X1_findShortest_u209 Q (f_X1_findShortest_u32 Q (f_X1_findShortest_u215 Q) N)) M σ x tail hd y6 y8 i := by
        intro M
        induction M with
        | zero => intro i tail σ i0 i1 hM; omega
        | succ M ihM =>
          intro i tail σ i0 i1 hM f q av
          have q' := q
          obtain ⟨v, t0, t1, q1, q2, q3, q4⟩ := q
          have OUT : f_X1_findShortest_u209 Q (f_X1_findShortest_u32 Q (f_X1_findShortest_u215 Q) N) σ x tail hd := by
            unfold f_X1_findShortest_u209
            refine ⟨mt_I (by omega) (by omega), fun y e => ?_⟩
            subst e
            exact ih (hd + 1) tail σ (by omega) (by omega) (by omega) f q'
          unfold f_X1_findShortest_u72
          rw [f 55 (by omega), n1]
          refine fun _ => ⟨fun _ => OUT, fun c1 _ => ⟨fun _ => OUT, fun c2 => ⟨mt_I (by omega) (by omega), mt_I (by omega) (by omega), fun y7 e7 => ?_⟩⟩⟩
          obtain ⟨m1, m2, m3, m4⟩ := n3 y8 i (by omega) (by omega) i0 (by omega)
          rw [show 6 * y8 + i = y7 by omega] at m1 m2 m3 m4
          rw [f 59 (by omega), f 58 (by omega), tm]
          refine ⟨by omega, mt_I (by omega) (by omega), by omega, by omega, fun _ => ⟨mt_I (by omega) (by omega), fun y11 e11 => ⟨by omega, by omega, fun _ => ⟨mt_I (by omega) (by omega), mt_I (by omega) (by omega), fun y15 e15 => ?_⟩⟩⟩⟩
          have nxt : ∀ tail σ, mt_f70 σ0 σ → mt_qs (3 * P) tail σ → σ 72 y6 ≠ -1 → f_X1_findShortest_u203 Q (f_X1_findShortest_u72 Q (f_X1_findShortest_u209 Q (f_X1_findShortest_u32 Q (f_X1_findShortest_u215 Q) N)) M) σ x tail hd y6 y8 i := by
            intro tail σ f q av
            unfold f_X1_findShortest_u203
            refine ⟨mt_I (by omega) (by omega), fun y e => ?_⟩
            subst e
            exact ihM (i + 1) tail σ (by omega) (by omega) (by omega) f q av
          refine ⟨fun _ => nxt tail σ f q' av, fun c3 => ⟨by omega, by omega, fun _ => ⟨fun _ => nxt tail σ f q' av, fun c4 => ⟨by omega, by omega, fun σ19 s19 => ⟨i0, by omega, fun _ => ⟨by omega, by omega, fun σ21 s21 => ?_⟩⟩⟩⟩⟩⟩
          have room := mt_qs_room (by omega) q' (show 0 ≤ y15 by omega) (by omega) c4
          refine ⟨by omega, by omega, fun σ22 s22 => ⟨mt_I (by omega) (by omega), fun y23 e23 => ?_⟩⟩
          have f22 : mt_f70 σ0 σ22 := by
            rw [s22, s21, s19]
            exact mt_f70_t f (mt_f70_t (mt_f70_t (mt_f70_up (by omega) (by omega)) (mt_f70_up (by omega) (by omega))) (mt_f70_up (by omega) (by omega)))
          have e72 : σ22 72 = ml_up σ 72 y15 y6 72 := by rw [s22, ml_up_k (by omega), s21, ml_up_k (by omega), s19]
          have e71 : ∀ j, σ22 71 j = if j = tail then y15 else σ 71 j := fun j => by
            rw [s22]
            by_cases z : j = tail
            · rw [if_pos z, z, ml_up_same]
            · rw [if_neg z, ml_up_i z, s21, ml_up_k (by omega), s19, ml_up_k (by omega)]
          have e70 : σ22 70 = σ 70 := by rw [s22, ml_up_k (by omega), s21, ml_up_k (by omega), s19, ml_up_k (by omega)]
          have u72 : ∀ s, σ 72 s ≠ -1 → σ22 72 s = σ 72 s := fun s hs => by
            rw [e72, ml_up_i (fun z => by rw [z] at hs; exact hs c4)]
          have q22 : mt_qs (3 * P) (tail + 1) σ22 := by
            refine ⟨⟨?_, fun s s0 s1 => ?_⟩, by omega, by omega, fun j j0 j1 => ?_, fun a b a0 ab b1 => ?_, by rw [e70]; exact q3, by rw [e70]; exact q4⟩
            · rw [u72 0 v.1]; exact v.1
            · obtain ⟨x1, x2, x3⟩ := v.2 s s0 s1
              by_cases z : s = y15
              · subst z
                rw [show σ22 72 s = y6 by rw [e72, ml_up_same]]
                exact ⟨by omega, by omega, fun _ => by rw [u72 y6 av]; exact av⟩
              · rw [show σ22 72 s = σ 72 s by rw [e72, ml_up_i z]]
                exact ⟨x1, x2, fun c => by rw [u72 _ (x3 c)]; exact x3 c⟩
            · rw [e71]
              by_cases z : j = tail
              · rw [if_pos z]
                exact ⟨by omega, by omega, by rw [e72, ml_up_same]; omega⟩
              · rw [if_neg z]
                obtain ⟨x1, x2, x3⟩ := q1 j j0 (by omega)
                exact ⟨x1, x2, by rw [u72 _ x3]; exact x3⟩
            · rw [e71, e71, if_neg (show a ≠ tail by omega)]
              by_cases z : b = tail
              · rw [if_pos z]
                intro c
                have := (q1 a a0 (by omega)).2.2
                rw [c] at this
                exact this c4
              · rw [if_neg z]; exact q2 a b a0 ab (by omega)
          have av22 : σ22 72 y6 ≠ -1 := by rw [u72 y6 av]; exact av
          rw [f22 58 (by omega), f22 60 (by omega)]
          have e23' : y23 = tail + 1 := e23
          subst e23'
          have c60 := cl (σ0 58 y7) (by omega) m2
          refine ⟨by omega, by omega, fun _ => ⟨by omega, by omega, fun _ => ⟨mt_I (by omega) (by omega), fun _ => nxt _ σ22 f22 q22 av22, fun _ => ?_⟩⟩⟩
          refine s_traceBack (M := 3 * P) (by omega) q22.1 (by omega) (by omega) (by rw [e72, ml_up_same]; omega) (fun σ28 f28 z0 z1 => ?_)
          refine nxt _ σ28 (mt_f70_t f22 (fun j hj => f28 j (by omega) (by omega))) ?_ (by rw [f28 72 (by omega) (by omega)]; exact av22)
          obtain ⟨w1, w2, w3, w4, w5, w6, w7⟩ := q22
          unfold mt_qs mt_vs
          rw [f28 71 (by omega) (by omega), f28 72 (by omega) (by omega)]
          exact ⟨w1, w2, w3, w4, w5, by omega, z1⟩
      exact I 10 0 tail σ (by omega) (by omega) (by omega) f q' a2
  unfold f_X1_findShortest f_X1_findShortest_u0
  intro σ1 s1
  refine s_fill32 (by omega) (fun σ2 f2 x2 => ⟨by omega, by omega, fun σ3 s3 => ⟨by omega, by omega, fun σ4 s4 => ⟨2850, ?_⟩⟩⟩)
  have f4 : mt_f70 σ0 σ4 := fun j hj => by rw [s4, ml_up_k (by omega), s3, ml_up_k (by omega), f2 j (by omega), s1, ml_up_k (by omega)]
  have e72 : ∀ s, σ4 72 s = if s = 0 then 0 else σ2 72 s := fun s => by
    rw [s4, ml_up_k (by omega), s3]
    by_cases z : s = 0
    · rw [if_pos z, z, ml_up_same]
    · rw [if_neg z, ml_up_i z]
  have e70 : σ4 70 5 = -1 := by rw [s4, ml_up_k (by omega), s3, ml_up_k (by omega), f2 70 (by omega), s1, ml_up_same]
  refine H 2850 0 1 σ4 (by omega) (by omega) (by omega) f4 ⟨⟨by rw [e72, if_pos rfl]; omega, fun s s0 s1 => ?_⟩, by omega, by omega, fun j j0 j1 => ?_, fun a b a0 ab b1 => by omega, by omega, by omega⟩
  · by_cases z : s = 0
    · rw [e72, if_pos z]
      exact ⟨by omega, by omega, fun _ => by rw [e72, if_pos rfl]; omega⟩
    · rw [e72, if_neg z, x2 s s0 (by omega)]
      exact ⟨by omega, by omega, fun c => absurd rfl c⟩
  · have : j = 0 := by omega
    subst this
    rw [show σ4 71 0 = 0 by rw [s4, ml_up_same]]
    exact ⟨by omega, by omega, by rw [e72, if_pos rfl]; omega⟩
theorem mt_nx_k {L P : Int} {σ σ' : ml_St} (f : mt_f70 σ σ') (n : mt_nx L P σ) : mt_nx L P σ' := by
  unfold mt_nx; rw [f 55 (by omega), f 58 (by omega), f 59 (by omega)]; exact n
theorem mt_f70_kp {σ σ' : ml_St} (f : mt_f70 σ σ') : mt_kp σ σ' := fun j hj => f j (by omega)
theorem c_shortest {Q : Int → ml_St → Prop} {h told ts cap set x y : Int} {tb cl pr sz : Int → Int} {T : Int → Int → Int} {σ0 : ml_St} (i : IC h told ts cap tb cl pr sz T σ0) (k : ∀ r σ, IC h told ts cap tb cl pr sz T σ → (∀ j, 215 ≤ j → σ j = σ0 j) → Q r σ) : f_X11_shortest σ0 set x y Q := by
  have no : ∀ r, Q r σ0 := fun r => k r σ0 i (fun _ _ => rfl)
  unfold f_X11_shortest f_X11_shortest_u0
  unfold f_X11_shortest_u22
  refine ⟨fun _ => no _, fun q1 => ⟨fun _ => no _, fun q2 => ⟨fun _ => no _, fun _ => s_openLetters i (fun _ _ => ⟨fun z => absurd rfl z, fun _ => no _⟩) (fun ls σ iσ g X eset f _ => ⟨fun _ => ?_, fun z => absurd z (by omega)⟩)⟩⟩⟩
  have c := iσ.2.2.1
  rw [iσ.1.1]
  obtain ⟨S, Y, C⟩ := ms_C_i g X
  refine fun _ => s_closeAll iσ.1.2.2.1 iσ.1.2.2.2.1 g Y c.2.2.2.1 c.2.2.1 (fun σ8 f8 c8 x8 => ?_)
  have e55 : σ8 55 = σ 55 := f8 55 (by omega) (by omega)
  have nx8 : mt_nx (σ 55 1) (σ 55 2) σ8 := by unfold mt_nx; rw [e55, f8 58 (by omega) (by omega), f8 59 (by omega) (by omega)]; exact ic_G_nx g
  obtain ⟨g1, g2, g3, g4, g5, g6, g7, g8, g9, g10⟩ := id g
  refine s_findShortest g1 g2 g4 g5 nx8 c8 (fun σ9 f9 z9 => s_answer z9 (fun r _ => ?_))
  have fs : mt_fs σ σ8 := fun j hj => f8 j (by omega) (by omega)
  have i8 : IC h told ts cap tb cl pr sz T σ8 := by
    refine IC_fs fs ?_ iσ
    rcases iσ.2.2.2.2.2.2 with z | z
    · left; rw [e55]; exact z
    · right
      exact ⟨z.1, ic_G_k (fun b hb => by rw [e55]) (by rw [e55]; exact g9) (by rw [e55]; exact g10) (fun j hj => f8 j (by omega) (by omega)) g, ic_X_k (fun b hb => by rw [e55]) (fun j hj => f8 j (by omega) (by omega)) (by unfold ic_W; rw [e55, f8 58 (by omega) (by omega), f8 59 (by omega) (by omega), f8 62 (by omega) (by omega)]; exact X.2.2) X⟩
  exact k r σ9 (IC_kp (mt_f70_kp f9) i8) (fun j hj => by rw [f9 j (by omega), f8 j (by omega) (by omega), f j (by omega)])
