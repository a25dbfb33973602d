/-! those and first, of the model and of the class -/
/-- the least of a stretch, among those that are marked -/
def mr_fm (f : Int → Int) (K fr to y : Int) (A : Int → Prop) : Prop := (y = 0 ∧ ∀ x, fr ≤ x → x ≤ to → A x → f x ≠ K) ∨ (fr ≤ y ∧ y ≤ to ∧ f y = K ∧ ∀ x, fr ≤ x → x < y → A x → f x ≠ K)
theorem m_thoseOf_x {Q : Int → ml_St → Prop} {h told ts cap w K fr to : Int} {tb cl pr sz : Int → Int} {T : Int → Int → Int} {τ : ml_St} (i : IM h told ts cap tb cl pr sz T τ) (q : mt_md told (mt_mk h T sz) w) (K0 : 0 ≤ K) (K1 : K ≤ 1000000000000000000) (f1 : 1 ≤ fr) (ft : fr ≤ to) (t1 : to ≤ 1000000000000000000) (k : ∀ σ (a n : Nat) (y : Int), IM h told ts cap tb cl pr sz T σ → (∀ j, j < 215 → σ j = τ j) → mq_p h (mt_mk h T sz w) cl a n σ → mr_fm (mr_U h (mt_mk h T sz w) cl a n) K fr to y (fun _ => True) → σ 215 37 = y → Q (mr_sm (mr_t (mr_U h (mt_mk h T sz w) cl a n) K) fr (to - fr + 1).toNat) σ) : f_X12_thoseOf τ w K fr to Q := by
  have h2 := i.1.2.2.1
  have h5 := i.1.2.2.2.1
  obtain ⟨g1, hv, ov, g4, g5⟩ := IM_w i q
  have hc := i.2.2.1.2.2.2
  obtain ⟨v0, v1⟩ := mq_20 (IM_cv i q.1 q.2.1).1 q.2.2
  unfold f_X12_thoseOf f_X12_thoseOf_u0
  refine m_powers i q (fun σ a n i' j' p σ2 s2 => ⟨1000, ?_⟩)
  have k := fun σ y => k σ a n y
  clear g1 g4 g5 q
  generalize mt_mk h T sz w = v at *
  have H : mq_h h v cl := ⟨h2, h5, hv, ov, hc, v0, v1⟩
  have n8 : n ≤ 8 := mq_8 h2 h5 hv p.2.2.2.2.2.2.2.2
  have E : (((to - fr + 1).toNat : Nat) : Int) = to - fr + 1 := by omega
  have an := p.1
  have en := p.2.2.2.2.2.2.2.1
  have pk : ∀ σ', (∀ b, b ≠ 36 → b ≠ 37 → σ' 215 b = σ 215 b) → σ' 236 = σ 236 → mq_p h v cl a n σ' := fun σ' b e => by
    unfold mq_p at *
    rw [b 32 (by omega) (by omega), b 33 (by omega) (by omega), b 34 (by omega) (by omega), b 35 (by omega) (by omega), e]; exact p
  have L2 : ∀ (N : Nat) (j : Nat) (σ' : ml_St), j ≤ n - a → n - a - j < N → (∀ j, j ≠ 215 → σ' j = σ j) → (∀ b, b ≠ 36 → b ≠ 37 → σ' 215 b = σ 215 b) → mr_fm (mr_U h v cl a n) K fr to (σ' 215 37) (fun x => x < (a : Int) + 1 ∨ (x - (a + 1)) % (n - a) < j) → f_X12_thoseOf_u99 Q (f_X12_thoseOf_u173 Q) N σ' K fr to (mr_sm (mr_c (mr_U h v cl a n) (a + 1) (n - a) K j) fr (to - fr + 1).toNat) ((a : Int) + 1 + j) := by
    intro N
    induction N with
    | zero => intro j σ' j0 hN; omega
    | succ N ih =>
      intro j σ' j1 hN f b hy
      have p' := pk σ' b (f 236 (by omega))
      unfold f_X12_thoseOf_u99
      rw [p'.2.2.1, p'.2.2.2.1]
      have m1 := fun x : Int => Int.emod_lt_of_pos (x - ((a : Int) + 1)) (show 0 < (n : Int) - a by omega)
      refine fun _ _ => ⟨mt_I (by omega) (by omega), fun c => ?_, fun c => ?_⟩
      · have ej : j = n - a := by omega
        subst ej
        unfold f_X12_thoseOf_u173
        rw [show ((n - a : Nat) : Int) = (n : Int) - a by omega, mr_sm_c _ (fun x _ _ => mr_c_S (mr_U h v cl a n) (a + 1) (n - a) K x (by omega))]
        refine k σ' (σ' 215 37) (mq_37 i' f b) (fun j hj => by rw [f j (by omega), j' j hj]) p' ?_ rfl
        rcases hy with ⟨y1, y2⟩ | ⟨y1, y2, y3, y4⟩
        · exact Or.inl ⟨y1, fun x x0 x1 _ => y2 x x0 x1 (Or.inr (by have := m1 x; generalize (x - ((a : Int) + 1)) % ((n : Int) - a) = r at *; omega))⟩
        · exact Or.inr ⟨y1, y2, y3, fun x x0 x1 _ => y4 x x0 x1 (Or.inr (by have := m1 x; generalize (x - ((a : Int) + 1)) % ((n : Int) - a) = r at *; omega))⟩
      · refine s_ofResidue_x H n8 p' (by omega) K0 K1 f1 ft t1 (fun r y er hr _ y7 e7 => ?_)
        have ea := mr_sm_a (b := mr_c (mr_U h v cl a n) (a + 1) (n - a) K (j + 1)) (c := mr_c (mr_U h v cl a n) (a + 1) (n - a) K j) (d := mr_b (mr_U h v cl a n) (a + 1) (n - a) K j) (lo := fr) (to - fr + 1).toNat (fun x _ _ => mr_c_s _ _ _ _ _ _ (by omega) (by omega))
        have q := mr_sm_r (b := mr_c (mr_U h v cl a n) (a + 1) (n - a) K (j + 1)) (lo := fr) (to - fr + 1).toNat (fun x _ _ => by unfold mr_c; split <;> omega)
        rw [er, ← ea, w64_id ⟨by omega, by omega⟩] at e7
        have nx : ∀ σ3, (∀ j, j ≠ 215 → σ3 j = σ' j) → (∀ b, b ≠ 36 → b ≠ 37 → σ3 215 b = σ' 215 b) → mr_fm (mr_U h v cl a n) K fr to (σ3 215 37) (fun x => x < (a : Int) + 1 ∨ (x - (a + 1)) % (n - a) < ((j + 1 : Nat) : Int)) → f_X12_thoseOf_u167 Q (f_X12_thoseOf_u99 Q (f_X12_thoseOf_u173 Q) N) σ3 K fr to y7 ((a : Int) + 1 + j) := fun σ3 f3 b3 hy3 => by
          unfold f_X12_thoseOf_u167
          refine ⟨mt_I (by omega) (by omega), fun y1 e1 => ?_⟩
          rw [e1, e7, show (a : Int) + 1 + j + 1 = (a : Int) + 1 + ((j + 1 : Nat) : Int) by omega, show (j : Int) + 1 = ((j + 1 : Nat) : Int) by omega]
          exact ih (j + 1) σ3 (by omega) (by omega) (fun j hj => by rw [f3 j hj, f j hj]) (fun c h1 h2 => by rw [b3 c h1 h2, b c h1 h2]) hy3
        have e36 : ml_up σ' 215 36 y 215 36 = y := ml_up_same _ _ _ _
        have e37 : ml_up σ' 215 36 y 215 37 = σ' 215 37 := ml_up_i (by omega)
        -- what is marked next
        have mk : ∀ x, (x < (a : Int) + 1 ∨ (x - (a + 1)) % (n - a) < ((j + 1 : Nat) : Int)) → (x < (a : Int) + 1 ∨ (x - (a + 1)) % (n - a) < j) ∨ ((a : Int) + 1 ≤ x ∧ (x - (a + 1)) % (n - a) = j) := fun x hx => by
          generalize (x - ((a : Int) + 1)) % ((n : Int) - a) = r at *; omega
        have keep : (y = 0 ∨ (σ' 215 37 ≠ 0 ∧ σ' 215 37 ≤ y)) → f_X12_thoseOf_u167 Q (f_X12_thoseOf_u99 Q (f_X12_thoseOf_u173 Q) N) (ml_up σ' 215 36 y) K fr to y7 ((a : Int) + 1 + j) := fun hk => by
          refine nx _ (fun j hj => ml_up_k hj) (fun b h1 _ => ml_up_i h1) ?_
          rw [e37]
          rcases hy with ⟨y1, y2⟩ | ⟨y1, y2, y3, y4⟩
          · refine Or.inl ⟨y1, fun x x0 x1 hx => ?_⟩
            rcases mk x hx with z | z
            · exact y2 x x0 x1 z
            · rcases hr with ⟨r1, r2⟩ | ⟨r1, r2, r3, r4⟩
              · exact r2 x x0 x1 z
              · omega
          · refine Or.inr ⟨y1, y2, y3, fun x x0 x1 hx => ?_⟩
            rcases mk x hx with z | z
            · exact y4 x x0 x1 z
            · rcases hr with ⟨r1, r2⟩ | ⟨r1, r2, r3, r4⟩
              · exact r2 x x0 (by omega) z
              · exact r4 x x0 (by omega) z
        have take : y ≠ 0 → (σ' 215 37 = 0 ∨ y < σ' 215 37) → f_X12_thoseOf_u159 Q (f_X12_thoseOf_u99 Q (f_X12_thoseOf_u173 Q) N) (ml_up σ' 215 36 y) K fr to y7 ((a : Int) + 1 + j) := fun h0 h1 => by
          unfold f_X12_thoseOf_u159
          rw [e36]
          intro _ σ2 s2
          refine nx σ2 (fun j hj => by rw [s2, ml_up_k hj, ml_up_k hj]) (fun b h1 h2 => by rw [s2, ml_up_i h2, ml_up_i h1]) ?_
          obtain ⟨r1, r2, r3, r4⟩ := hr.resolve_left (fun w => h0 w.1)
          rw [s2, ml_up_same]
          refine Or.inr ⟨r1, r2, r3, fun x x0 x1 hx => ?_⟩
          rcases mk x hx with z | z
          · rcases hy with ⟨y1, y2⟩ | ⟨y1, y2, y3, y4⟩
            · exact y2 x x0 (by omega) z
            · exact y4 x x0 (by omega) z
          · exact r4 x x0 x1 z
        have y0 : 0 ≤ y := by rcases hr with ⟨r1, -⟩ | ⟨r1, -⟩ <;> omega
        have y37 : 0 ≤ σ' 215 37 := by rcases hy with ⟨r1, -⟩ | ⟨r1, -⟩ <;> omega
        rw [e36, e37]
        exact fun _ => ⟨fun z => keep (Or.inl (by omega)), fun z _ => ⟨fun z1 => take (by omega) (Or.inl z1), fun z1 _ _ => ⟨fun z2 => keep (Or.inr ⟨z1, z2⟩), fun z2 => take (by omega) (Or.inr (by omega))⟩⟩⟩
  have L1 : ∀ (N : Nat) (j : Nat) (σ' : ml_St), j ≤ a → a - j < N → (∀ j, j ≠ 215 → σ' j = σ j) → (∀ b, b ≠ 36 → b ≠ 37 → σ' 215 b = σ 215 b) → mr_fm (mr_U h v cl a n) K fr to (σ' 215 37) (fun x => x < (j : Int) + 1) → (σ' 215 37 ≠ 0 → σ' 215 37 < (j : Int) + 1) → f_X12_thoseOf_u16 Q (f_X12_thoseOf_u93 Q) N σ' K fr to (mr_sm (mr_d (mr_U h v cl a n) K (j + 1)) fr (to - fr + 1).toNat) ((j : Int) + 1) := by
    intro N
    induction N with
    | zero => intro j σ' j0 hN; omega
    | succ N ih =>
      intro j σ' j1 hN f b hy hl
      have p' := pk σ' b (f 236 (by omega))
      unfold f_X12_thoseOf_u16
      rw [p'.2.2.1]
      refine fun _ => ⟨fun c => ?_, fun c => ⟨by omega, by omega, fun _ => ?_⟩⟩
      · have ej : j = a := by omega
        subst ej
        unfold f_X12_thoseOf_u93
        rw [p'.2.2.1]
        refine fun _ y2 e => ⟨1000, ?_⟩
        rw [e, mr_sm_c _ (fun x _ _ => (mr_c_0 (mr_U h v cl j n) (j + 1) (n - j) K x (by omega)).symm)]
        have := L2 1000 0 σ' (by omega) (by omega) f b (by
          have m0 := fun x : Int => Int.emod_nonneg (x - ((j : Int) + 1)) (show (n : Int) - j ≠ 0 by omega)
          rcases hy with ⟨y1, y2⟩ | ⟨y1, y2, y3, y4⟩
          · exact Or.inl ⟨y1, fun x x0 x1 hx => y2 x x0 x1 (hx.resolve_right (by have := m0 x; generalize (x - ((j : Int) + 1)) % ((n : Int) - j) = r at *; omega))⟩
          · exact Or.inr ⟨y1, y2, y3, fun x x0 x1 hx => y4 x x0 x1 (hx.resolve_right (by have := m0 x; generalize (x - ((j : Int) + 1)) % ((n : Int) - j) = r at *; omega))⟩)
        rw [show (j : Int) + 1 + ((0 : Nat) : Int) = (j : Int) + 1 by omega] at this
        exact this
      · have u := mr_U_s (cl := cl) H an en (x := j) (by omega)
        have ea := mr_sm_a (b := mr_d (mr_U h v cl a n) K (j + 1 + 1)) (c := mr_d (mr_U h v cl a n) K (j + 1)) (d := fun x => if x = (j : Int) + 1 ∧ mr_U h v cl a n ((j : Int) + 1) = K then 1 else 0) (lo := fr) (to - fr + 1).toNat (fun x _ _ => mr_d_s _ _ _ _)
        have q := mr_sm_r (b := mr_d (mr_U h v cl a n) K (j + 1 + 1)) (lo := fr) (to - fr + 1).toNat (fun x _ _ => by unfold mr_d; split <;> omega)
        have l := p'.2.2.2.2.2.2.1 j (by omega)
        rw [l, ← u]
        have nx : ∀ σ3 y, y = mr_sm (mr_d (mr_U h v cl a n) K (j + 1 + 1)) fr (to - fr + 1).toNat → (∀ j, j ≠ 215 → σ3 j = σ' j) → (∀ b, b ≠ 36 → b ≠ 37 → σ3 215 b = σ' 215 b) → mr_fm (mr_U h v cl a n) K fr to (σ3 215 37) (fun x => x < (j : Int) + 1 + 1) → (σ3 215 37 ≠ 0 → σ3 215 37 < (j : Int) + 1 + 1) → f_X12_thoseOf_u87 Q (f_X12_thoseOf_u16 Q (f_X12_thoseOf_u93 Q) N) σ3 K fr to y ((j : Int) + 1) := fun σ3 y e f3 b3 hy3 hl3 => by
          unfold f_X12_thoseOf_u87
          refine ⟨mt_I (by omega) (by omega), fun y1 e1 => ?_⟩
          rw [e1, e, show (j : Int) + 1 = ((j + 1 : Nat) : Int) by omega]
          exact ih (j + 1) σ3 (by omega) (by omega) (fun j hj => by rw [f3 j hj, f j hj]) (fun c h1 h2 => by rw [b3 c h1 h2, b c h1 h2]) (by rw [show ((j + 1 : Nat) : Int) + 1 = (j : Int) + 1 + 1 by omega]; exact hy3) (fun z => by have := hl3 z; omega)
        -- nothing at this place
        have skip : ¬ (mr_U h v cl a n ((j : Int) + 1) = K ∧ fr ≤ (j : Int) + 1 ∧ (j : Int) + 1 ≤ to) → f_X12_thoseOf_u87 Q (f_X12_thoseOf_u16 Q (f_X12_thoseOf_u93 Q) N) σ' K fr to (mr_sm (mr_d (mr_U h v cl a n) K (j + 1)) fr (to - fr + 1).toNat) ((j : Int) + 1) := fun hz => by
          refine nx σ' _ ?_ (fun _ _ => rfl) (fun _ _ _ => rfl) ?_ (fun z => by have := hl z; omega)
          · rw [ea, mr_sm_0 (b := fun x => if x = (j : Int) + 1 ∧ mr_U h v cl a n ((j : Int) + 1) = K then 1 else 0) _ (fun x x0 x1 => if_neg (fun y => hz ⟨y.2, by omega, by omega⟩))]; omega
          · rcases hy with ⟨y1, y2⟩ | ⟨y1, y2, y3, y4⟩
            · refine Or.inl ⟨y1, fun x x0 x1 hx => ?_⟩
              by_cases z : x = (j : Int) + 1
              · subst z; exact fun e => hz ⟨e, x0, x1⟩
              · exact y2 x x0 x1 (by omega)
            · refine Or.inr ⟨y1, y2, y3, fun x x0 x1 hx => ?_⟩
              by_cases z : x = (j : Int) + 1
              · subst z; exact fun e => hz ⟨e, x0, by omega⟩
              · exact y4 x x0 x1 (by omega)
        refine ⟨fun z => skip (fun y => z y.1), fun z => ⟨fun z1 => skip (fun y => by omega), fun z1 => ⟨fun z2 y8 e8 _ => ?_, fun z2 => skip (fun y => by omega)⟩⟩⟩
        have one := mr_sm_1 (b := fun x => if x = (j : Int) + 1 ∧ mr_U h v cl a n ((j : Int) + 1) = K then 1 else 0) (lo := fr) (x0 := (j : Int) + 1) (to - fr + 1).toNat (fun x _ _ => by
          by_cases q : x = (j : Int) + 1
          · rw [if_pos ⟨q, z⟩, if_pos q]
          · rw [if_neg (fun y => q y.1), if_neg q])
        rw [if_pos (by omega)] at one
        rw [ea, one] at q
        have e8' : y8 = mr_sm (mr_d (mr_U h v cl a n) K (j + 1 + 1)) fr (to - fr + 1).toNat := by
          rw [e8, ea, one]; exact w64_id ⟨by omega, by omega⟩
        have U : ∀ s, ((σ' 215 37 ≠ 0 ∧ s = σ' 215 37) ∨ (σ' 215 37 = 0 ∧ s = (j : Int) + 1)) → f_X12_thoseOf_u84 Q (f_X12_thoseOf_u16 Q (f_X12_thoseOf_u93 Q) N) σ' K fr to y8 ((j : Int) + 1) s := fun s hs => by
          unfold f_X12_thoseOf_u84
          intro σ1 s1
          have e37 : σ1 215 37 = s := by rw [s1, ml_up_same]
          refine nx σ1 y8 e8' (fun j hj => by rw [s1, ml_up_k hj]) (fun b h1 h2 => by rw [s1, ml_up_i h2]) ?_ ?_
          · rw [e37]
            rcases hs with ⟨s1, s2⟩ | ⟨s1, s2⟩
            · obtain ⟨y1, y2, y3, y4⟩ := hy.resolve_left (fun w => s1 w.1)
              have := hl s1
              rw [s2]
              exact Or.inr ⟨y1, y2, y3, fun x x0 x1 hx => y4 x x0 x1 (by omega)⟩
            · rw [s2]
              refine Or.inr ⟨by omega, z2, z, fun x x0 x1 hx => ?_⟩
              rcases hy with ⟨y1, y2⟩ | ⟨y1, y2, y3, y4⟩
              · exact y2 x x0 (by omega) x1
              · omega
          · rw [e37]
            rcases hs with ⟨s1, s2⟩ | ⟨s1, s2⟩
            · have := hl s1; omega
            · omega
        exact ⟨fun y _ => U _ (Or.inl ⟨y, rfl⟩), fun y => U _ (Or.inr ⟨y, rfl⟩)⟩
  have e37 : σ2 215 37 = 0 := by rw [s2, ml_up_same]
  have := L1 1000 0 σ2 (by omega) (by omega) (fun j hj => by rw [s2, ml_up_k hj]) (fun b _ h2 => by rw [s2, ml_up_i h2]) (Or.inl ⟨e37, fun x x0 x1 hx => by omega⟩) (fun z => absurd e37 z)
  rw [mr_sm_0 (b := mr_d (mr_U h v cl a n) K ((0 : Nat) + 1)) _ (fun x x0 _ => by unfold mr_d; exact if_neg (fun y => by omega))] at this
  exact this
def mr_tc (told : Int) (mk : Int → Int → Int) (w K fr to : Int) : Prop := mt_md told mk w ∧ 0 ≤ K ∧ K ≤ 1000000000000000000 ∧ 1 ≤ fr ∧ fr ≤ to ∧ to ≤ 1000000000000000000
theorem m_those_x {Q : Int → ml_St → Prop} {h told ts cap w K fr to : Int} {tb cl pr sz : Int → Int} {T : Int → Int → Int} {τ : ml_St} (i : IM h told ts cap tb cl pr sz T τ) (k1 : mr_tc told (mt_mk h T sz) w K fr to → ∀ σ (a n : Nat), IM h told ts cap tb cl pr sz T σ → (∀ j, j < 215 → σ j = τ j) → mq_p h (mt_mk h T sz w) cl a n σ → Q (mr_sm (mr_t (mr_U h (mt_mk h T sz w) cl a n) K) fr (to - fr + 1).toNat) σ) (k0 : ¬ mr_tc told (mt_mk h T sz) w K fr to → Q (-1) τ) : f_X12_those τ w K fr to Q := by
  unfold f_X12_those f_X12_those_u0
  unfold f_X12_those_u52 f_X12_those_u55
  exact m_isMade i (fun q _ => ⟨fun z => absurd z (by omega), fun _ => s_isLoops12 (fun K0 K1 _ => ⟨fun z => absurd z (by omega), fun _ => s_isPower12 (fun f0 f1 _ => ⟨fun z => absurd z (by omega), fun _ => s_isPower12 (fun t0 t1 _ => ⟨fun z => absurd z (by omega), fun _ => ⟨fun z => k0 (fun y => by have := y.2.2.2.2.1; omega), fun z => m_thoseOf_x i q K0 K1 f0 (by omega) t1 (fun σ a n y i' j' p _ _ _ => k1 ⟨q, K0, K1, f0, by omega, t1⟩ σ a n i' j' p)⟩⟩) (fun z _ => ⟨fun _ => k0 (fun y => z ⟨by have := y.2.2.2.1; have := y.2.2.2.2.1; omega, y.2.2.2.2.2⟩), fun z => absurd rfl z⟩)⟩) (fun z _ => ⟨fun _ => k0 (fun y => z ⟨y.2.2.2.1, by have := y.2.2.2.2.1; have := y.2.2.2.2.2; omega⟩), fun z => absurd rfl z⟩)⟩) (fun z _ => ⟨fun _ => k0 (fun y => z ⟨y.2.1, y.2.2.1⟩), fun z => absurd rfl z⟩)⟩) (fun q _ => ⟨fun _ => k0 (fun y => q y.1), fun z => absurd rfl z⟩)
theorem m_first_x {Q : Int → ml_St → Prop} {h told ts cap w K : Int} {tb cl pr sz : Int → Int} {T : Int → Int → Int} {τ : ml_St} (i : IM h told ts cap tb cl pr sz T τ) (k1 : mt_md told (mt_mk h T sz) w → 0 ≤ K → K ≤ 1000000000000000000 → ∀ σ (a n : Nat) (r : Int), IM h told ts cap tb cl pr sz T σ → (∀ j, j < 215 → σ j = τ j) → mq_p h (mt_mk h T sz w) cl a n σ → mr_fst (mr_U h (mt_mk h T sz w) cl a n) K r → Q r σ) (k0 : ¬ (mt_md told (mt_mk h T sz) w ∧ 0 ≤ K ∧ K ≤ 1000000000000000000) → Q (-1) τ) : f_X12_first τ w K Q := by
  unfold f_X12_first f_X12_first_u0
  unfold f_X12_first_u15 f_X12_first_u44
  refine m_isMade i (fun q _ => ⟨fun z => absurd z (by omega), fun _ => s_isLoops12 (fun K0 K1 _ => ⟨fun _ => m_thoseOf_x i q K0 K1 (by omega) (by omega) (by omega) (fun σ a n y i' j' p hy ey _ => ?_), fun z => absurd z (by omega)⟩) (fun z _ => ⟨fun z => absurd rfl z, fun _ => k0 (fun y => z y.2)⟩)⟩) (fun q _ => ⟨fun _ => k0 (fun y => q y.1), fun z => absurd rfl z⟩)
  have k1 := fun r => k1 q K0 K1 σ a n r i' j' p
  generalize mr_U h (mt_mk h T sz w) cl a n = f at *
  have E : (((1000000000000000000 - 1 + 1 : Int).toNat : Nat) : Int) = 1000000000000000000 := by omega
  have sn := mr_sm_n (b := mr_t f K) (lo := 1) (1000000000000000000 - 1 + 1 : Int).toNat (fun x _ _ => mr_t_r f K x)
  have s0 := mr_sm_0 (b := mr_t f K) (lo := 1) (1000000000000000000 - 1 + 1 : Int).toNat
  generalize (1000000000000000000 - 1 + 1 : Int).toNat = N at *
  refine ⟨fun z _ => ?_, fun z => ?_⟩
  · rw [ey]
    rcases hy with ⟨y1, y2⟩ | ⟨y1, y2, y3, y4⟩
    · exact absurd (s0 (fun x x0 x1 => by unfold mr_t; exact if_neg (y2 x x0 (by omega) trivial))) z
    · exact k1 y (Or.inr ⟨y1, y2, y3, fun x x0 x1 => y4 x x0 x1 trivial⟩)
  · refine k1 (-1) (Or.inl ⟨rfl, fun x x0 x1 e => ?_⟩)
    have := sn z x x0 (by omega)
    unfold mr_t at this
    rw [if_pos e] at this
    omega
theorem c_those_x {Q : Int → ml_St → Prop} {h told ts cap w K fr to : Int} {tb cl pr sz : Int → Int} {T : Int → Int → Int} {σ0 : ml_St} (i : IC h told ts cap tb cl pr sz T σ0) (k1 : mr_tc told (mt_mk h T sz) w K fr to → ∀ σ (a n : Nat), IC h told ts cap tb cl pr sz T σ → (∀ j, 215 ≤ j → σ j = σ0 j) → mq_q h (mt_mk h T sz w) cl a n σ → Q (mr_sm (mr_t (mr_U h (mt_mk h T sz w) cl a n) K) fr (to - fr + 1).toNat) σ) (k0 : ¬ mr_tc told (mt_mk h T sz) w K fr to → Q (-1) σ0) : f_X11_those σ0 w K fr to Q := by
  have t16 := i.1.2.2.2.2.2
  have c := i.2.2.1
  have h2 := i.1.2.2.1
  have h5 := i.1.2.2.2.1
  unfold f_X11_those f_X11_those_u0
  unfold f_X11_those_u32
  refine c_isMade i (fun q _ => ⟨fun z => absurd z (by omega), fun _ => ⟨fun z => k0 (fun y => by have := y.2.1; omega), fun K0 => ⟨fun z => k0 (fun y => by have := y.2.2.1; omega), fun K1 => ?_⟩⟩⟩) (fun q _ => ⟨fun _ => k0 (fun y => q y.1), fun z => absurd rfl z⟩)
  have go : 1 ≤ fr → fr ≤ to → to ≤ 1000000000000000000 → f_X6_study σ0 (119 + 6 * w + 2) (σ0 1 11) (fun σ9 => f_X6_findRule σ9 (fun σ10 => f_X6_howMany σ10 K fr to (fun r11 σ11 => ∀ _ : I64 r11, Q r11 σ11))) := fun f1 ft t1 => by
    obtain ⟨g1, g2, g3, g4⟩ := IC_w i q.1 q.2.1
    have cv := IC_cv i q.1 q.2.1
    have b20 := mq_20 cv q.2.2
    rw [i.1.1, show 119 + 6 * w + 2 = 121 + 6 * w by omega]
    refine s_study_x h2 h5 (Or.inr (by have := q.1; omega)) (by have := q.1; omega) g3 g2 c.2.2.2.1 c.2.2.1 (mq_64_p h _ h2 h5 g3) (fun σ a n f p => ?_)
    have H : mq_h h (mt_mk h T sz w) cl := ⟨h2, h5, g3, g4, c.2.2.2.1, b20.1, b20.2⟩
    have n8 := mq_8 h2 h5 g3 p.2.2.2.2.2.2.2
    refine s_findRule_x H p (fun σ2 s m g f2 p2 e7 e8 e9 hr => ?_)
    have f' := mt_f46_kp (mt_f46_t f f2)
    exact s_howMany_x H p2 n8 hr e7 e8 e9 (by omega) (by omega) f1 ft t1 (fun _ => k1 ⟨q, by omega, by omega, f1, ft, t1⟩ σ2 a n (IC_kp f' i) (mt_kp_m f') p2)
  unfold f_X11_isStretch f_X11_isStretch_u0
  unfold f_X11_isStretch_u24 f_X11_isStretch_u25
  exact s_isPower (fun f1 f2 _ => ⟨fun z => absurd z (by omega), fun _ => s_isPower (fun t1 t2 _ => ⟨fun z => absurd z (by omega), fun _ => ⟨fun y _ => ⟨fun z => absurd rfl z, fun _ => k0 (fun x => by have := x.2.2.2.2.1; omega)⟩, fun y _ => ⟨fun _ => ⟨q.1, by have := q.2.1; omega, fun _ => go f1 (by omega) t2⟩, fun z => absurd z (by omega)⟩⟩⟩) (fun z _ => ⟨fun _ _ => ⟨fun z => absurd rfl z, fun _ => k0 (fun y => z ⟨by have := y.2.2.2.1; have := y.2.2.2.2.1; omega, y.2.2.2.2.2⟩)⟩, fun z => absurd rfl z⟩)⟩) (fun z _ => ⟨fun _ _ => ⟨fun z => absurd rfl z, fun _ => k0 (fun y => z ⟨y.2.2.2.1, by have := y.2.2.2.2.1; have := y.2.2.2.2.2; omega⟩)⟩, fun z => absurd rfl z⟩)
theorem c_first_x {Q : Int → ml_St → Prop} {h told ts cap w K : Int} {tb cl pr sz : Int → Int} {T : Int → Int → Int} {σ0 : ml_St} (i : IC h told ts cap tb cl pr sz T σ0) (k1 : mt_md told (mt_mk h T sz) w → 0 ≤ K → K ≤ 1000000000000000000 → ∀ σ (a n : Nat) (r : Int), IC h told ts cap tb cl pr sz T σ → (∀ j, 215 ≤ j → σ j = σ0 j) → mq_q h (mt_mk h T sz w) cl a n σ → mr_fst (mr_U h (mt_mk h T sz w) cl a n) K r → Q r σ) (k0 : ¬ (mt_md told (mt_mk h T sz) w ∧ 0 ≤ K ∧ K ≤ 1000000000000000000) → Q (-1) σ0) : f_X11_first σ0 w K Q := by
  have t16 := i.1.2.2.2.2.2
  have c := i.2.2.1
  have h2 := i.1.2.2.1
  have h5 := i.1.2.2.2.1
  unfold f_X11_first f_X11_first_u0
  unfold f_X11_first_u22
  refine c_isMade i (fun q _ => ⟨fun z => absurd z (by omega), fun _ => ⟨fun z => k0 (fun y => by have := y.2.1; omega), fun K0 => ⟨fun K1 => ⟨q.1, by have := q.2.1; omega, fun _ => ?_⟩, fun z => k0 (fun y => by have := y.2.2; omega)⟩⟩⟩) (fun q _ => ⟨fun _ => k0 (fun y => q y.1), fun z => absurd rfl z⟩)
  obtain ⟨g1, g2, g3, g4⟩ := IC_w i q.1 q.2.1
  have cv := IC_cv i q.1 q.2.1
  have b20 := mq_20 cv q.2.2
  rw [i.1.1, show 119 + 6 * w + 2 = 121 + 6 * w by omega]
  refine s_study_x h2 h5 (Or.inr (by have := q.1; omega)) (by have := q.1; omega) g3 g2 c.2.2.2.1 c.2.2.1 (mq_64_p h _ h2 h5 g3) (fun σ a n f p => ?_)
  have H : mq_h h (mt_mk h T sz w) cl := ⟨h2, h5, g3, g4, c.2.2.2.1, b20.1, b20.2⟩
  have n8 := mq_8 h2 h5 g3 p.2.2.2.2.2.2.2
  refine s_findRule_x H p (fun σ2 s m g f2 p2 e7 e8 e9 hr => ?_)
  have f' := mt_f46_kp (mt_f46_t f f2)
  exact s_firstWith_x H p2 n8 hr e7 e8 e9 (by omega) (by omega) (fun r hf _ => k1 q (by omega) (by omega) σ2 a n r (IC_kp f' i) (mt_kp_m f') p2 hf)
