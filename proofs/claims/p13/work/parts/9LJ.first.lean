/-! first (both sides) and those (of the model) -/
def mr_fst (f : Int → Int) (K r : Int) : Prop := (r = -1 ∧ ∀ x, 1 ≤ x → x ≤ 1000000000000000000 → f x ≠ K) ∨ (1 ≤ r ∧ r ≤ 1000000000000000000 ∧ f r = K ∧ ∀ x, 1 ≤ x → x < r → f x ≠ K)
theorem mr_fst_u {f : Int → Int} {K r r' : Int} (a : mr_fst f K r) (b : mr_fst f K r') : r = r' := by
  rcases a with ⟨a1, a2⟩ | ⟨a1, a2, a3, a4⟩ <;> rcases b with ⟨b1, b2⟩ | ⟨b1, b2, b3, b4⟩
  · omega
  · exact absurd b3 (a2 r' b1 b2)
  · exact absurd a3 (b2 r a1 a2)
  · rcases Int.lt_trichotomy r r' with z | z | z
    · exact absurd a3 (b4 r a1 z)
    · exact z
    · exact absurd b3 (a4 r' b1 z)
theorem s_firstWith_x {Q : Int → ml_St → Prop} {h : Int} {v cl : Int → Int} {a n s m : Nat} {g K : Int} {σ : ml_St} (H : mq_h h v cl) (p : mq_q h v cl a n σ) (n8 : n ≤ 8) (hr : mr h v cl a n s m g) (e7 : σ 46 7 = s) (e8 : σ 46 8 = g) (e9 : σ 46 9 = m + 1) (K0 : 0 ≤ K) (K1 : K ≤ 1000000000000000000) (k : ∀ r, mr_fst (mr_U h v cl a n) K r → Q r σ) : f_X6_firstWith σ K Q := by
  obtain ⟨h2, h5, hv, ov, hc, v0, v1⟩ := id H
  have hh := mr_H2 H p.1 n8 p.2.2.2.2.2.2.1 hr
  have s8 := hh.2.2.1
  have r6 := hr.2.2.2.2.2.1
  have r1 := hr.1
  have an := p.1
  have U := fun (j : Nat) (hj : j ≤ 2000) => mr_U_s (cl := cl) H p.1 p.2.2.2.2.2.2.1 (x := j) hj
  have L2 : ∀ (N : Nat) (i : Nat) (y : Int), i ≤ s → s - i < N → (∀ x, 1 ≤ x → x < (m : Int) + 1 → mr_U h v cl a n x ≠ K) → ((y = -1 ∧ ∀ x, (m : Int) + 1 ≤ x → x ≤ 1000000000000000000 → (x - (m + 1)) % s < i → mr_U h v cl a n x ≠ K) ∨ ((m : Int) + 1 ≤ y ∧ y ≤ 1000000000000000000 ∧ mr_U h v cl a n y = K ∧ ∀ x, (m : Int) + 1 ≤ x → x < y → (x - (m + 1)) % s < i → mr_U h v cl a n x ≠ K)) → f_X6_firstWith_u37 Q (f_X6_firstWith_u102 Q) N σ K y i := by
    intro N
    induction N with
    | zero => intro i y i1 hN; omega
    | succ N ih =>
      intro i y i1 hN lo hy
      unfold f_X6_firstWith_u37
      unfold f_X6_firstWith_u102 f_X6_firstWith_u93
      rw [e7, e9]
      refine fun _ => ⟨fun c => ?_, fun c _ => ⟨mt_i (by omega) (by omega), ?_⟩⟩
      · have : i = s := by omega
        subst this
        have m1 := fun x : Int => Int.emod_lt_of_pos (x - ((m : Int) + 1)) (show 0 < (i : Int) by omega)
        refine k y ?_
        rcases hy with ⟨y1, y2⟩ | ⟨y1, y2, y3, y4⟩
        · refine Or.inl ⟨y1, fun x x0 x1 => ?_⟩
          by_cases z : x < (m : Int) + 1
          · exact lo x x0 z
          · exact y2 x (by omega) x1 (m1 x)
        · refine Or.inr ⟨by omega, y2, y3, fun x x0 x1 => ?_⟩
          by_cases z : x < (m : Int) + 1
          · exact lo x x0 z
          · exact y4 x (by omega) x1 (m1 x)
      · have nx : ∀ y, ((y = -1 ∧ ∀ x, (m : Int) + 1 ≤ x → x ≤ 1000000000000000000 → (x - (m + 1)) % s < ((i + 1 : Nat) : Int) → mr_U h v cl a n x ≠ K) ∨ ((m : Int) + 1 ≤ y ∧ y ≤ 1000000000000000000 ∧ mr_U h v cl a n y = K ∧ ∀ x, (m : Int) + 1 ≤ x → x < y → (x - (m + 1)) % s < ((i + 1 : Nat) : Int) → mr_U h v cl a n x ≠ K)) → f_X6_firstWith_u96 Q (f_X6_firstWith_u37 Q (f_X6_firstWith_u102 Q) N) σ K y i := by
          intro y hy
          unfold f_X6_firstWith_u96
          refine ⟨mt_i (by omega) (by omega), fun y1 e1 => ?_⟩
          rw [e1, show (i : Int) + 1 = ((i + 1 : Nat) : Int) by omega]
          exact ih (i + 1) y (by omega) (by omega) lo hy
        have go := s_firstFrom_x (Q := fun r5 σ5 => ∀ _ : I64 r5, (r5 = (-1) → f_X6_firstWith_u96 Q (f_X6_firstWith_u37 Q (fun σ x3 => Q x3 σ) N) σ5 K y i) ∧ (r5 ≠ (-1) → (1000000000000000000 < r5 → f_X6_firstWith_u96 Q (f_X6_firstWith_u37 Q (fun σ x3 => Q x3 σ) N) σ5 K y i) ∧ (¬ (1000000000000000000 < r5) → (y = (-1) → f_X6_firstWith_u96 Q (f_X6_firstWith_u37 Q (fun σ x3 => Q x3 σ) N) σ5 K r5 i) ∧ (y ≠ (-1) → (y ≤ r5 → f_X6_firstWith_u96 Q (f_X6_firstWith_u37 Q (fun σ x3 => Q x3 σ) N) σ5 K y i) ∧ (¬ (y ≤ r5) → f_X6_firstWith_u96 Q (f_X6_firstWith_u37 Q (fun σ x3 => Q x3 σ) N) σ5 K r5 i))))) H p n8 hr e7 e8 (y := m + i) (by omega) (by omega) K0 K1
        rw [show ((m + i : Nat) : Int) + 1 = (m : Int) + 1 + i by omega] at go
        refine go (fun _ => ?_)
        have P := mr_ff_l (k := K) hh (show (m : Int) + 1 ≤ (m : Int) + 1 + i by omega)
        generalize mr_ff (mr_U h v cl a n) s g K ((m : Int) + 1 + i) = r at *
        have ch := fun x : Int => mr_in (B := (m : Int) + 1) (S := (s : Int)) (i := (i : Int)) (x := x) (by omega) s8 (by omega) (by omega)
        -- nothing new at this place or beyond
        have keep : (∀ x, (m : Int) + 1 ≤ x → x ≤ 1000000000000000000 → (x - (m + 1)) % s = i → mr_U h v cl a n x = K → y ≠ -1 ∧ y ≤ x) → f_X6_firstWith_u96 Q (f_X6_firstWith_u37 Q (f_X6_firstWith_u102 Q) N) σ K y i := fun hk => by
          refine nx y ?_
          rcases hy with ⟨y1, y2⟩ | ⟨y1, y2, y3, y4⟩
          · refine Or.inl ⟨y1, fun x x0 x1 x2 => ?_⟩
            by_cases z : (x - (m + 1)) % s = i
            · exact fun e => (hk x x0 x1 z e).1 y1
            · exact y2 x x0 x1 (by generalize (x - ((m : Int) + 1)) % s = q at *; omega)
          · refine Or.inr ⟨y1, y2, y3, fun x x0 x1 x2 => ?_⟩
            by_cases z : (x - (m + 1)) % s = i
            · exact fun e => absurd (hk x x0 (by omega) z e).2 (by omega)
            · exact y4 x x0 x1 (by generalize (x - ((m : Int) + 1)) % s = q at *; omega)
        have take : r ≠ -1 → r ≤ 1000000000000000000 → (y = -1 ∨ r < y) → f_X6_firstWith_u96 Q (f_X6_firstWith_u37 Q (f_X6_firstWith_u102 Q) N) σ K r i := fun q1 q2 q3 => by
          obtain ⟨p1, p2, p3, p4⟩ := P.resolve_left (fun w => q1 w.1)
          refine nx r (Or.inr ⟨by omega, q2, p3, fun x x0 x1 x2 => ?_⟩)
          by_cases z : (x - (m + 1)) % s = i
          · obtain ⟨c1, c2⟩ := (ch x).1 ⟨x0, z⟩
            exact fun e => absurd (p4 x c1 c2 e) (by omega)
          · have z2 : (x - (m + 1)) % s < (i : Int) := by generalize (x - ((m : Int) + 1)) % s = q at *; omega
            rcases hy with ⟨y1, y2⟩ | ⟨y1, y2, y3, y4⟩
            · exact y2 x x0 (by omega) z2
            · exact y4 x x0 (by omega) z2
        refine ⟨fun z => keep (fun x x0 x1 x2 e => ?_), fun z => ⟨fun z1 => keep (fun x x0 x1 x2 e => ?_), fun z1 => ⟨fun z2 => take z (by omega) (Or.inl z2), fun z2 => ⟨fun z3 => keep (fun x x0 x1 x2 e => ?_), fun z3 => take z (by omega) (Or.inr (by omega))⟩⟩⟩⟩
        · obtain ⟨c1, c2⟩ := (ch x).1 ⟨x0, x2⟩
          rcases P with ⟨p1, p2⟩ | ⟨p1, p2, p3, p4⟩
          · exact absurd e (p2 x c1 c2)
          · omega
        · obtain ⟨c1, c2⟩ := (ch x).1 ⟨x0, x2⟩
          rcases P with ⟨p1, p2⟩ | ⟨p1, p2, p3, p4⟩
          · exact absurd e (p2 x c1 c2)
          · have := p4 x c1 c2 e; omega
        · obtain ⟨c1, c2⟩ := (ch x).1 ⟨x0, x2⟩
          rcases P with ⟨p1, p2⟩ | ⟨p1, p2, p3, p4⟩
          · exact absurd e (p2 x c1 c2)
          · have := p4 x c1 c2 e; omega
  have L1 : ∀ (N : Nat) (j : Nat), j ≤ m → m - j < N → (∀ x, 1 ≤ x → x < (j : Int) + 1 → mr_U h v cl a n x ≠ K) → f_X6_firstWith_u2 Q (f_X6_firstWith_u21 Q) (f_X6_firstWith_u30 Q) N σ K (j + 1) := by
    intro N
    induction N with
    | zero => intro j j1 hN; omega
    | succ N ih =>
      intro j j1 hN lo
      unfold f_X6_firstWith_u2
      unfold f_X6_firstWith_u21 f_X6_firstWith_u30
      rw [e9]
      have l := mq_lv_s (cl := cl) H p.1 p.2.2.2.2.2.2.1 (x := j) (by omega)
      have u := U j (by omega)
      refine fun _ => ⟨fun _ => ⟨100, ?_⟩, fun c => s_loopsOf_x (by omega) h5 hv ov hc v0 v1 p (by omega) (by omega) (fun _ => ?_)⟩
      · have : j = m := by omega
        subst this
        refine L2 100 0 (-1) (by omega) (by omega) lo (Or.inl ⟨rfl, fun x x0 x1 x2 => ?_⟩)
        have m0 := Int.emod_nonneg (x - ((j : Int) + 1)) (show (s : Int) ≠ 0 by omega)
        generalize (x - ((j : Int) + 1)) % s = q at *; omega
      · rw [l, ← u]
        refine ⟨fun z => ⟨mt_i (by omega) (by omega), fun y e => ?_⟩, fun z => k _ (Or.inr ⟨by omega, by omega, z, fun x x0 x1 => lo x x0 (by omega)⟩)⟩
        rw [e, show (j : Int) + 1 = ((j + 1 : Nat) : Int) by omega]
        refine ih (j + 1) (by omega) (by omega) (fun x x0 x1 => ?_)
        by_cases q : x = (j : Int) + 1
        · subst q; exact z
        · exact lo x x0 (by omega)
  unfold f_X6_firstWith f_X6_firstWith_u0
  exact ⟨100, L1 100 0 (by omega) (by omega) (fun x x0 x1 => by omega)⟩
/-- the model: one residue -/
theorem mr_low_w {r fr S : Int} (r1 : 1 ≤ r) (rf : r < fr) (f9 : fr ≤ 1000000000000000000) (S1 : 1 ≤ S) (S8 : S ≤ 8) : w64 (r + w64 (w64 (Int.tdiv (w64 (w64 (w64 (fr - r) + S) - 1)) S) * S)) = mr_low r fr S := by
  unfold mr_low
  rw [if_neg (by omega)]
  have d0 := Int.ediv_nonneg (show 0 ≤ fr - r + S - 1 by omega) (show (0 : Int) ≤ S by omega)
  have d1 := Int.ediv_le_self (S : Int) (show 0 ≤ fr - r + S - 1 by omega)
  have d2 := Int.ediv_mul_le (fr - r + S - 1) (show (S : Int) ≠ 0 by omega)
  have d3 := Int.mul_nonneg d0 (show (0 : Int) ≤ S by omega)
  rw [w64_id (x := fr - r) ⟨by omega, by omega⟩, w64_id (x := fr - r + S) ⟨by omega, by omega⟩, w64_id (x := fr - r + S - 1) ⟨by omega, by omega⟩, Int.tdiv_eq_ediv_of_nonneg (by omega), w64_id (x := (fr - r + S - 1) / S) ⟨by omega, by omega⟩, w64_id (x := (fr - r + S - 1) / S * S) ⟨by omega, by omega⟩, w64_id ⟨by omega, by omega⟩]
set_option maxHeartbeats 4000000 in
theorem s_ofResidue_x {Q : Int → ml_St → Prop} {h : Int} {v cl : Int → Int} {a n i : Nat} {K fr to : Int} {τ : ml_St} (H : mq_h h v cl) (n8 : n ≤ 8) (pp : mq_p h v cl a n τ) (i1 : i < n - a) (K0 : 0 ≤ K) (K1 : K ≤ 1000000000000000000) (f1 : 1 ≤ fr) (ft : fr ≤ to) (t1 : to ≤ 1000000000000000000) (k : ∀ r y, r = mr_sm (mr_b (mr_U h v cl a n) (a + 1) (n - a) K i) fr (to - fr + 1).toNat → ((y = 0 ∧ ∀ x, fr ≤ x → x ≤ to → ((a : Int) + 1 ≤ x ∧ (x - (a + 1)) % (n - a) = i) → mr_U h v cl a n x ≠ K) ∨ (fr ≤ y ∧ y ≤ to ∧ mr_U h v cl a n y = K ∧ ∀ x, fr ≤ x → x < y → ((a : Int) + 1 ≤ x ∧ (x - (a + 1)) % (n - a) = i) → mr_U h v cl a n x ≠ K)) → Q r (ml_up τ 215 36 y)) : f_X12_ofResidue τ ((a : Int) + 1 + i) K fr to Q := by
  obtain ⟨h2, h5, hv, ov, hc, v0, v1⟩ := id H
  obtain ⟨q1, q2, q3, q4, q5, q6, q7, q8, q9⟩ := pp
  have R := fun j (hj : j ≤ 2000) => mt_plo_r (n := j) (by omega) h5 hv hc v0 v1 hj
  have ra := R a (by omega)
  have rn := R n (by omega)
  have ri := R (a + i) (by omega)
  have li := q7 (a + i) (by omega)
  have u := mr_U_s (cl := cl) H q1 q8 (x := a + i) (by omega)
  rw [w64_id ⟨by omega, by omega⟩] at q6
  have hh := mr_H1 H q1 n8 q8
  have g0 := hh.2.2.2.1
  have P := mr_ff_p (k := K) hh (show (a : Int) + 1 ≤ (a : Int) + 1 + i by omega)
  have ch := fun x : Int => mr_in (B := (a : Int) + 1) (S := (n : Int) - a) (i := (i : Int)) (x := x) (by omega) (by omega) (by omega) (by omega)
  rw [show ((a + i : Nat) : Int) + 1 = (a : Int) + 1 + i by omega] at li u
  have hm := mr_hm (k := K) (i := (i : Int)) (fr := fr) (to := to) hh (by omega) (by omega) ft f1
  generalize mr_sm (mr_b (mr_U h v cl a n) (a + 1) (n - a) K i) fr (to - fr + 1).toNat = SM at *
  have hm := fun (_ : Unit) => hm
  unfold f_X12_ofResidue f_X12_ofResidue_u0
  intro σ1 s1
  have e33 : σ1 215 33 = n - a := by rw [s1, ml_up_i (by omega), q4]
  have e35 : σ1 215 35 = mt_plo h v cl n - mt_plo h v cl a := by rw [s1, ml_up_i (by omega), q6]
  have e236 : σ1 236 ((a : Int) + 1 + i) = mt_plo h v cl (a + i) := by rw [s1, ml_up_k (by omega), li]
  have up : ∀ y, ml_up σ1 215 36 y = ml_up τ 215 36 y := fun y => by
    rw [s1]; funext j b
    by_cases q : j = 215
    · subst q
      by_cases q2 : b = 36
      · subst q2; rw [ml_up_same, ml_up_same]
      · rw [ml_up_i q2, ml_up_i q2, ml_up_i q2]
    · rw [ml_up_k q, ml_up_k q, ml_up_k q]
  rw [e33, e35, e236]
  unfold f_X12_ofResidue_u129 f_X12_ofResidue_u171
  have F : ∀ n', n' = mr_ff (mr_U h v cl a n) ((n : Int) - a) (mt_plo h v cl n - mt_plo h v cl a) K ((a : Int) + 1 + i) → n' = (if K - mt_plo h v cl (a + i) = 0 then (a : Int) + 1 + i else if K - mt_plo h v cl (a + i) < 0 ∨ mt_plo h v cl n - mt_plo h v cl a ≤ 0 ∨ (K - mt_plo h v cl (a + i)) % (mt_plo h v cl n - mt_plo h v cl a) ≠ 0 then -1 else (a : Int) + 1 + i + (K - mt_plo h v cl (a + i)) / (mt_plo h v cl n - mt_plo h v cl a) * (n - a)) := fun n' e => by
    rw [e]; unfold mr_ff; rw [u]
  have F := fun (_ : Unit) => F _ rfl
  generalize mr_ff (mr_U h v cl a n) ((n : Int) - a) (mt_plo h v cl n - mt_plo h v cl a) K ((a : Int) + 1 + i) = r at *
  have w0 : w64 (K - mt_plo h v cl (a + i)) = K - mt_plo h v cl (a + i) := w64_id ⟨by omega, by omega⟩
  rw [w0]
  have none : (∀ x, (a : Int) + 1 + i ≤ x → (x - ((a : Int) + 1 + i)) % ((n : Int) - a) = 0 → fr ≤ x → x ≤ to → mr_U h v cl a n x ≠ K) → (r = -1 ∨ to < r ∨ (0 < mt_plo h v cl n - mt_plo h v cl a ∧ r < fr) ∨ (mt_plo h v cl n - mt_plo h v cl a ≤ 0 ∧ to < mr_low r fr ((n : Int) - a))) → Q 0 σ1 := fun hn hz => by
    have e := k 0 0 ?_ (Or.inl ⟨rfl, fun x x0 x1 x2 => ?_⟩)
    · rw [s1]; exact e
    · rw [hm ()]
      rcases hz with z | z | z | z
      · rw [if_pos (Or.inl z)]
      · rw [if_pos (Or.inr z)]
      · by_cases y : r = -1 ∨ to < r
        · rw [if_pos y]
        · rw [if_neg y, if_pos z.1, if_neg (by omega)]
      · by_cases y : r = -1 ∨ to < r
        · rw [if_pos y]
        · rw [if_neg y, if_neg (by omega), if_pos z.2]
    · obtain ⟨c1, c2⟩ := (ch x).1 x2
      exact hn x c1 c2 x0 x1
  generalize hG : mt_plo h v cl n - mt_plo h v cl a = G at *
  generalize hd : K - mt_plo h v cl (a + i) = d at *
  -- no place at all
  have nm : r = -1 → ∀ x, (a : Int) + 1 + i ≤ x → (x - ((a : Int) + 1 + i)) % ((n : Int) - a) = 0 → mr_U h v cl a n x ≠ K := fun e => by
    rcases P with ⟨p1, p2⟩ | ⟨p1, p2⟩
    · exact p2
    · omega
  have n1 : r = -1 → Q 0 σ1 := fun e => none (fun x x0 x1 _ _ => nm e x x0 x1) (Or.inl e)
  -- one place
  have on : 0 < G → r ≠ -1 → (to < r ∨ r < fr) → Q 0 σ1 := fun g1 r1 rr => by
    obtain ⟨p1, p2, p3, p4, p5⟩ := P.resolve_left (fun w => r1 w.1)
    refine none (fun x x0 x1 x2 x3 e => ?_) (by omega)
    have := p4 g1 x x0 x1 e
    omega
  have u68 : ∀ low, low = mr_low r fr ((n : Int) - a) → r = (a : Int) + 1 + i → G = 0 → f_X12_ofResidue_u68 Q σ1 to low := fun low el er eg => by
    obtain ⟨l1, l2, l3, l4⟩ := mr_low_p (n := r) (fr := fr) (S := (n : Int) - a) (by omega) (by omega)
    obtain ⟨p1, p2, p3, p4, p5⟩ := P.resolve_left (fun w => by omega)
    have p5 := (p5 (by omega)).2
    rw [← el] at l1 l2 l3 l4
    unfold f_X12_ofResidue_u68
    refine ⟨fun z σ2 s2 _ => ?_, fun z => ?_⟩
    · have z33 : σ2 215 33 = n - a := by rw [s2, ml_up_i (by omega), e33]
      have d0 := Int.ediv_nonneg (show 0 ≤ to - low by omega) (show (0 : Int) ≤ (n : Int) - a by omega)
      have d1 := Int.ediv_le_self ((n : Int) - a) (show 0 ≤ to - low by omega)
      rw [z33, w64_id (x := to - low) ⟨by omega, by omega⟩, Int.tdiv_eq_ediv_of_nonneg (by omega), w64_id (x := (to - low) / ((n : Int) - a)) ⟨by omega, by omega⟩, w64_id ⟨by omega, by omega⟩, s2, up low]
      refine ⟨by omega, k _ low ?_ (Or.inr ⟨l2, z, p5 low (by omega) (by rw [← er]; exact l3), fun x x0 x1 x2 => ?_⟩)⟩
      · rw [hm (), if_neg (by omega), if_neg (by omega), ← el, if_neg (by omega)]
      · obtain ⟨c1, c2⟩ := (ch x).1 x2
        have := ((l4 x x0).1 (by rw [er]; exact ⟨c1, c2⟩)).1
        omega
    · refine none (fun x x0 x1 x2 x3 e => ?_) (Or.inr (Or.inr (Or.inr ⟨by omega, by rw [← el]; omega⟩)))
      have := ((l4 x x2).1 (by rw [er]; exact ⟨x0, x1⟩)).1
      omega
  refine fun _ => ⟨fun c => ⟨by omega, by omega, fun _ => ⟨fun z => n1 ?_, fun z => ⟨by omega, by omega, fun _ _ => ⟨c, fun z2 => ⟨by omega, by omega, fun _ _ => ⟨c, fun y15 e15 _ => ?_⟩⟩, fun z2 => n1 ?_⟩⟩⟩⟩, fun c => ⟨by omega, by omega, fun _ => ⟨fun z => ⟨fun z2 _ _ => ⟨by omega, fun _ => u68 _ ?_ ?_ c⟩, fun z2 => u68 _ ?_ ?_ c⟩, fun z => n1 ?_⟩⟩⟩
  · rw [F (), if_neg (by omega), if_pos (Or.inl (by omega))]
  · rw [Int.tmod_eq_emod_of_nonneg (by omega)] at z2
    have q0 := Int.ediv_nonneg (show 0 ≤ d by omega) (show 0 ≤ G by omega)
    have q1' := Int.ediv_le_self G (show 0 ≤ d by omega)
    rw [Int.tdiv_eq_ediv_of_nonneg (by omega), w64_id ⟨by omega, by omega⟩] at e15
    rw [← e15] at q0 q1'
    have er : r = (a : Int) + 1 + i + y15 * (n - a) := by
      rw [F ()]
      by_cases y : d = 0
      · rw [if_pos y]
        have : y15 = 0 := by omega
        rw [this, Int.zero_mul]; omega
      · rw [if_neg y, if_neg (by omega), e15]
    have q2 := Int.mul_nonneg q0 (show (0 : Int) ≤ (n : Int) - a by omega)
    have q3 := Int.mul_le_mul_of_nonneg_left (show (n : Int) - a ≤ 8 by omega) q0
    have rn1 : r ≠ -1 := by omega
    have w2 : w64 (to - ((a : Int) + 1 + i)) = to - ((a : Int) + 1 + i) := w64_id ⟨by omega, by omega⟩
    rw [w2]
    refine ⟨by omega, fun z3 => ?_, fun z3 => ⟨fun z4 _ y24 e24 => ?_, fun z4 => on (by omega) rn1 (Or.inl (by omega))⟩⟩
    · refine on (by omega) rn1 (Or.inl ?_)
      by_cases y : (a : Int) + 1 + i ≤ to
      · have d1 := Int.ediv_le_self ((n : Int) - a) (show 0 ≤ to - ((a : Int) + 1 + i) by omega)
        have d0 := Int.ediv_nonneg (show 0 ≤ to - ((a : Int) + 1 + i) by omega) (show (0 : Int) ≤ (n : Int) - a by omega)
        rw [Int.tdiv_eq_ediv_of_nonneg (by omega), w64_id ⟨by omega, by omega⟩] at z3
        have := (Int.ediv_lt_iff_lt_mul (show 0 < (n : Int) - a by omega)).1 z3
        omega
      · omega
    · have d1 := Int.ediv_le_self ((n : Int) - a) (show 0 ≤ to - ((a : Int) + 1 + i) by omega)
      have d0 := Int.ediv_nonneg (show 0 ≤ to - ((a : Int) + 1 + i) by omega) (show (0 : Int) ≤ (n : Int) - a by omega)
      rw [Int.tdiv_eq_ediv_of_nonneg (by omega), w64_id ⟨by omega, by omega⟩] at z3
      have rt : r ≤ to := by
        rcases Int.lt_or_le to r with w | w
        · exact absurd ((Int.ediv_lt_iff_lt_mul (show 0 < (n : Int) - a by omega)).2 (by omega)) z3
        · exact w
      rw [w64_id (x := y15 * ((n : Int) - a)) ⟨by omega, by omega⟩, w64_id ⟨by omega, by omega⟩, ← er] at e24
      subst e24
      refine ⟨fun z5 σ26 s26 => ?_, fun z5 => on (by omega) rn1 (Or.inr (by omega))⟩
      obtain ⟨p1, p2, p3, p4, p5⟩ := P.resolve_left (fun w => rn1 w.1)
      rw [s26, up]
      refine k 1 y24 ?_ (Or.inr ⟨z5, rt, p3, fun x x0 x1 x2 e => ?_⟩)
      · rw [hm (), if_neg (by omega), if_pos (by omega), if_pos z5]
      · obtain ⟨c1, c2⟩ := (ch x).1 x2
        have := p4 (by omega) x c1 c2 e
        omega
  · rw [Int.tmod_eq_emod_of_nonneg (by omega)] at z2
    rw [F ()]
    by_cases y : d = 0
    · rw [y, Int.zero_emod] at z2; exact absurd rfl z2
    · rw [if_neg y, if_pos (Or.inr (Or.inr z2))]
  · have er : r = (a : Int) + 1 + i := by rw [F (), if_pos (by omega)]
    rw [er]
    exact mr_low_w (by omega) z2 (by omega) (by omega) (by omega)
  · rw [F (), if_pos (by omega)]
  · have er : r = (a : Int) + 1 + i := by rw [F (), if_pos (by omega)]
    rw [er]; unfold mr_low; rw [if_pos (by omega)]
  · rw [F (), if_pos (by omega)]
  · rw [F (), if_neg (by omega), if_pos (by omega)]
