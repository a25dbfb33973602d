/-! the model: powers -/
def mq_f (τ τ' : ml_St) : Prop := (∀ j, j ≠ 232 → j ≠ 234 → j ≠ 235 → j ≠ 236 → j ≠ 215 → ¬ (227 ≤ j ∧ j ≤ 231) → τ' j = τ j) ∧ (∀ b, b ≠ 27 → ¬ (32 ≤ b ∧ b ≤ 37) → τ' 215 b = τ 215 b) ∧ (∀ m, m ≠ 60 → m ≠ 62 → (∀ e, 0 ≤ e → e < 10 → τ' 227 (10 * m + e) = τ 227 (10 * m + e) ∧ τ' 228 (10 * m + e) = τ 228 (10 * m + e)) ∧ τ' 229 m = τ 229 m ∧ τ' 230 m = τ 230 m ∧ τ' 231 m = τ 231 m)
theorem mq_f_r {τ : ml_St} : mq_f τ τ := ⟨fun _ _ _ _ _ _ _ => rfl, fun _ _ _ => rfl, fun _ _ _ => ⟨fun _ _ _ => ⟨rfl, rfl⟩, rfl, rfl, rfl⟩⟩
theorem mq_f_t {τ τ1 τ2 : ml_St} (a : mq_f τ τ1) (b : mq_f τ1 τ2) : mq_f τ τ2 := ⟨fun j h1 h2 h3 h4 h5 h6 => (b.1 j h1 h2 h3 h4 h5 h6).trans (a.1 j h1 h2 h3 h4 h5 h6), fun c h1 h2 => (b.2.1 c h1 h2).trans (a.2.1 c h1 h2), fun m m0 m1 => by
  obtain ⟨x1, x2, x3, x4⟩ := a.2.2 m m0 m1
  obtain ⟨y1, y2, y3, y4⟩ := b.2.2 m m0 m1
  exact ⟨fun e e0 e1 => ⟨(y1 e e0 e1).1.trans (x1 e e0 e1).1, (y1 e e0 e1).2.trans (x1 e e0 e1).2⟩, y2.trans x2, y3.trans x3, y4.trans x4⟩⟩
theorem mq_f_mf {c : Int} {τ τ' : ml_St} (hc : c = 60 ∨ c = 62) (f : mt_mf c τ τ') : mq_f τ τ' := ⟨fun j h1 _ _ _ h5 h6 => f.1 j h5 (by omega) (by omega) (by omega) (by omega) (by omega) h1, fun b h1 _ => f.2.1 b h1, fun m m0 m1 => ⟨fun e e0 e1 => f.2.2.1 _ (by omega), f.2.2.2 m (by omega)⟩⟩
/-- other objects than the weaves -/
theorem mq_f_o {τ τ' : ml_St} (f : ∀ j, j ≠ 234 → j ≠ 235 → j ≠ 236 → j ≠ 215 → τ' j = τ j) (b : ∀ b, ¬ (32 ≤ b ∧ b ≤ 37) → τ' 215 b = τ 215 b) : mq_f τ τ' := ⟨fun j _ h2 h3 h4 h5 _ => f j h2 h3 h4 h5, fun c _ h2 => b c h2, fun m _ _ => by
  rw [f 227 (by omega) (by omega) (by omega) (by omega), f 228 (by omega) (by omega) (by omega) (by omega), f 229 (by omega) (by omega) (by omega) (by omega), f 230 (by omega) (by omega) (by omega) (by omega), f 231 (by omega) (by omega) (by omega) (by omega)]
  exact ⟨fun _ _ _ => ⟨rfl, rfl⟩, rfl, rfl, rfl⟩⟩
theorem mq_f_mv {h m : Int} {τ τ' : ml_St} {v : Int → Int} (h5 : h ≤ 5) (m0 : m ≠ 60) (m1 : m ≠ 62) (f : mq_f τ τ') (w : mt_mv h τ m v) : mt_mv h τ' m v := by
  obtain ⟨x1, x2, x3, x4⟩ := f.2.2 m m0 m1
  refine ⟨fun e e0 e1 => ?_, x2.trans w.2.1, x3.trans w.2.2.1, x4.trans w.2.2.2⟩
  exact ⟨(x1 e e0 (by omega)).1.trans (w.1 e e0 e1).1, (x1 e e0 (by omega)).2.trans (w.1 e e0 e1).2⟩
theorem mq_f_kq {τ τ' : ml_St} (f : mq_f τ τ') : mt_kq τ τ' := ⟨fun b h1 h2 => f.2.1 b (by omega) (by omega), fun j h1 h2 => f.1 j (by omega) (by omega) (by omega) (by omega) (by omega) (by omega), fun m m0 m1 => f.2.2 m (by omega) (by omega), fun j hj => f.1 j (by omega) (by omega) (by omega) (by omega) (by omega) (by omega)⟩
theorem mq_f_jv {h : Int} {τ τ' : ml_St} {cl : Int → Int} (f : mq_f τ τ') (j : mt_jv h τ cl) : mt_jv h τ' cl := by
  unfold mt_jv; rw [f.2.1 4 (by omega) (by omega), f.1 217 (by omega) (by omega) (by omega) (by omega) (by omega) (by omega)]; exact j
/-- weaves stay where only other objects change -/
theorem mt_mv_o {h m : Int} {τ τ' : ml_St} {v : Int → Int} (f : ∀ j, 227 ≤ j → j ≤ 231 → τ' j = τ j) (w : mt_mv h τ m v) : mt_mv h τ' m v := by
  unfold mt_mv; rw [f 227 (by omega) (by omega), f 228 (by omega) (by omega), f 229 (by omega) (by omega), f 230 (by omega) (by omega), f 231 (by omega) (by omega)]; exact w
/-- powers' numbers: the power of row a + 1 comes again at row n + 1, as the first one -/
def mq_d (h : Int) (v : Int → Int) (n : Nat) : Prop := ∀ i j : Nat, i < j → j < n → ¬ mt_eq h (mt_pp h v i) (mt_pp h v j)
def mq_p (h : Int) (v cl : Int → Int) (a n : Nat) (σ : ml_St) : Prop := a < n ∧ n ≤ 945 ∧ σ 215 32 = a + 1 ∧ σ 215 33 = n - a ∧ σ 215 34 = 2 * n - a + 1 ∧ σ 215 35 = w64 (mt_plo h v cl n - mt_plo h v cl a) ∧ (∀ i : Nat, (i : Int) < 2 * n - a + 1 → σ 236 (i + 1) = mt_plo h v cl i) ∧ mt_eq h (mt_pp h v a) (mt_pp h v n) ∧ mq_d h v n
theorem mq_d_le {h : Int} {v : Int → Int} {n : Nat} (h2 : 2 ≤ h) (h5 : h ≤ 5) (hv : mt_M h v) (d : mq_d h v n) : n ≤ 945 := by
  by_cases q : n ≤ 945
  · exact q
  · obtain ⟨i, j, hij, hj, e⟩ := mt_ph 945 (fun i => (mt_num h (mt_pp h v i) : Int)) (fun i _ => ⟨by show (0:Int) ≤ _; omega, by have := mt_num_lt h2 h5 (mt_pp_M h5 hv i); show ((mt_num h (mt_pp h v i) : Nat) : Int) < 945; omega⟩)
    have e : ((mt_num h (mt_pp h v i) : Nat) : Int) = mt_num h (mt_pp h v j) := e
    exact absurd (mt_num_inj h2 h5 (mt_pp_M h5 hv i) (mt_pp_M h5 hv j) (by omega)) (d i j hij (by omega))
theorem s_powers {Q : ml_St → Prop} {m h : Int} {τ0 : ml_St} {v cl : Int → Int} (h2 : 2 ≤ h) (h5 : h ≤ 5) (m0 : 0 ≤ m) (m1 : m < 60) (th : τ0 215 2 = h) (hv : mt_M h v) (wv : mt_mv h τ0 m v) (hc : mt_M h cl) (jv : mt_jv h τ0 cl) (k : ∀ σ (a n : Nat), mq_f τ0 σ → mq_p h v cl a n σ → Q σ) : f_X12_powers τ0 m Q := by
  have M := fun n => mt_pp_M h5 hv n
  have C : ∀ i j : Nat, mt_cd h (mt_pp h v i) = mt_cd h (mt_pp h v j) ↔ mt_eq h (mt_pp h v i) (mt_pp h v j) := fun i j => mt_cd_iff (by omega) h5 (M i) (M j)
  -- rows past the first recurrence
  have K : ∀ (n : Nat), n ≤ 945 → ∀ (K' : ml_St → Int → Int → Prop) (σ : ml_St), mq_f τ0 σ → mt_mv h σ 60 (mt_pp h v n) → (∀ σ', mq_f σ σ' → σ' 235 = σ 235 → σ' 236 = σ 236 → (∀ b, 32 ≤ b → b ≤ 35 → σ' 215 b = σ 215 b) → mt_mv h σ' 60 (mt_pp h v (n + 1)) → K' σ' m ((n + 1 : Nat) + 1)) → f_X12_powers_u105 Q K' σ m (n + 1) := by
    intro n n1 K' σ f w kk
    unfold f_X12_powers_u105
    refine s_lays h2 h5 ⟨by omega, by omega⟩ ⟨m0, by omega⟩ ⟨by omega, by omega⟩ (by rw [f.2.1 2 (by omega) (by omega), th]) (M n) hv w (mq_f_mv h5 (by omega) (by omega) f wv) (by omega) (by omega) (fun σ1 f1 w1 => ?_)
    refine s_copies h2 h5 ⟨by omega, by omega⟩ ⟨by omega, by omega⟩ (by omega) (by rw [f1.2.1 2 (by omega), f.2.1 2 (by omega) (by omega), th]) w1 (fun σ2 f2 w2 => ⟨mt_I (by omega) (by omega), fun y e => ?_⟩)
    have e : y = ((n + 1 : Nat) : Int) + 1 := by omega
    subst e
    exact kk σ2 (mq_f_t (mq_f_mf (Or.inr rfl) f1) (mq_f_mf (Or.inl rfl) f2)) (by rw [f2.1 235 (by omega) (by omega) (by omega) (by omega) (by omega) (by omega) (by omega), f1.1 235 (by omega) (by omega) (by omega) (by omega) (by omega) (by omega) (by omega)]) (by rw [f2.1 236 (by omega) (by omega) (by omega) (by omega) (by omega) (by omega) (by omega), f1.1 236 (by omega) (by omega) (by omega) (by omega) (by omega) (by omega) (by omega)]) (fun b b0 b1 => by rw [f2.2.1 b (by omega), f1.2.1 b (by omega)]) w2
  -- the end
  have E : ∀ (a n : Nat) (σ : ml_St), a < n → n ≤ 945 → mq_f τ0 σ → σ 215 32 = a + 1 → σ 215 33 = n - a → (∀ i : Nat, i < n + 1 → σ 236 (i + 1) = mt_plo h v cl i) → mt_mv h σ 60 (mt_pp h v (n + 1)) → mt_eq h (mt_pp h v a) (mt_pp h v n) → mq_d h v n → f_X12_powers_u128 Q σ m ((n + 1 : Nat) + 1) := by
    intro a n σ an n1 f e1 e2 el w ee dd
    unfold f_X12_powers_u128
    rw [e1, e2]
    refine fun _ _ => ⟨mt_I (by omega) (by omega), mt_I (by omega) (by omega), fun σ5 s5 => ⟨1000, ?_⟩⟩
    have L : ∀ (N : Nat) (j : Nat) (σ : ml_St), n + 1 ≤ j → (j : Int) ≤ 2 * n - a + 1 → 2 * (n : Int) - a + 1 - j < N → mq_f τ0 σ → σ 215 32 = a + 1 → σ 215 33 = n - a → σ 215 34 = 2 * n - a + 1 → (∀ i : Nat, i < j → σ 236 (i + 1) = mt_plo h v cl i) → mt_mv h σ 60 (mt_pp h v j) → f_X12_powers_u143 Q (f_X12_powers_u195 Q) N σ m (j + 1) := by
      intro N
      induction N with
      | zero => intro j σ j0 j1 hN; omega
      | succ N ih =>
        intro j σ j0 j1 hN f e1 e2 e3 el w
        unfold f_X12_powers_u143
        rw [e3]
        refine fun _ => ⟨fun c => ?_, fun c => ⟨by omega, by omega, fun _ => ?_⟩⟩
        · unfold f_X12_powers_u195
          have x1 := el n (by omega)
          have x2 := el a (by omega)
          rw [e1, e2, show (a : Int) + 1 + (n - a) = n + 1 by omega, x1, x2]
          refine fun _ _ => ⟨mt_I (by omega) (by omega), by omega, by omega, fun _ _ => ⟨by omega, by omega, fun _ σ8 s8 => ?_⟩⟩
          have f8 : mq_f σ σ8 := by rw [s8]; exact mq_f_o (fun j _ _ _ h => ml_up_k h) (fun b hb => ml_up_i (by omega))
          refine k σ8 a n (mq_f_t f f8) ⟨an, n1, ?_, ?_, ?_, ?_, ?_, ee, dd⟩
          · rw [s8, ml_up_i (by omega), e1]
          · rw [s8, ml_up_i (by omega), e2]
          · rw [s8, ml_up_i (by omega), e3]
          · rw [s8, ml_up_same]
          · intro i hi; rw [s8, ml_up_k (by omega)]; exact el i (by omega)
        refine s_closing h2 h5 ⟨by omega, by omega⟩ (by rw [f.2.1 2 (by omega) (by omega), th]) (M j) hc (fun e e0 e1 => (w.1 e e0 e1).1) (mq_f_jv f jv) (fun τ' f' _ => ⟨by omega, by omega, fun σ6 s6 => ?_⟩)
        rw [w.2.1] at s6
        have f6 : mq_f σ σ6 := mq_f_o (fun x h1 h2 h3 h4 => by rw [s6, ml_up_k (by omega), f' x h1]) (fun b hb => by rw [s6, ml_up_k (by omega), f' 215 (by omega)])
        have w6 : mt_mv h σ6 60 (mt_pp h v j) := mt_mv_o (fun x x0 x1 => by rw [s6, ml_up_k (by omega), f' x (by omega)]) w
        have F6 := mq_f_t f f6
        refine s_lays h2 h5 ⟨by omega, by omega⟩ ⟨m0, by omega⟩ ⟨by omega, by omega⟩ (by rw [F6.2.1 2 (by omega) (by omega), th]) (M j) hv w6 (mq_f_mv h5 (by omega) (by omega) F6 wv) (by omega) (by omega) (fun σ7 f7 w7 => ?_)
        refine s_copies h2 h5 ⟨by omega, by omega⟩ ⟨by omega, by omega⟩ (by omega) (by rw [f7.2.1 2 (by omega), F6.2.1 2 (by omega) (by omega), th]) w7 (fun σ8 f8 w8 => ⟨mt_I (by omega) (by omega), fun y e => ?_⟩)
        have e : y = ((j + 1 : Nat) : Int) + 1 := by omega
        subst e
        have b : ∀ b, 32 ≤ b → b ≤ 35 → σ8 215 b = σ 215 b := fun b b0 b1 => by rw [f8.2.1 b (by omega), f7.2.1 b (by omega), s6, ml_up_k (by omega), f' 215 (by omega)]
        have l8 : σ8 236 = σ6 236 := by rw [f8.1 236 (by omega) (by omega) (by omega) (by omega) (by omega) (by omega) (by omega), f7.1 236 (by omega) (by omega) (by omega) (by omega) (by omega) (by omega) (by omega)]
        refine ih (j + 1) σ8 (by omega) (by omega) (by omega) (mq_f_t F6 (mq_f_t (mq_f_mf (Or.inr rfl) f7) (mq_f_mf (Or.inl rfl) f8))) (by rw [b 32 (by omega) (by omega), e1]) (by rw [b 33 (by omega) (by omega), e2]) (by rw [b 34 (by omega) (by omega), e3]) (fun i hi => ?_) w8
        rw [l8, s6]
        by_cases q : i = j
        · subst q; rw [ml_up_same]; rfl
        · rw [ml_up_i (by omega), f' 236 (by omega)]; exact el i (by omega)
    have f5 : mq_f σ σ5 := by rw [s5]; exact mq_f_o (fun j _ _ _ h => ml_up_k h) (fun b hb => ml_up_i (by omega))
    refine L 1000 (n + 1) σ5 (by omega) (by omega) (by omega) (mq_f_t f f5) (by rw [s5, ml_up_i (by omega), e1]) (by rw [s5, ml_up_i (by omega), e2]) (by rw [s5, ml_up_same]; omega) (fun i hi => by rw [s5, ml_up_k (by omega)]; exact el i hi) (mt_mv_o (fun x x0 x1 => by rw [s5, ml_up_k (by omega)]) w)
  -- the rows before
  have L : ∀ (N : Nat) (n : Nat) (σ : ml_St), n ≤ 945 → 946 - (n : Int) < N → mq_f τ0 σ → mt_mv h σ 60 (mt_pp h v n) → (∀ i : Nat, i < n → σ 236 (i + 1) = mt_plo h v cl i) → ((σ 215 32 = 0 ∧ mq_d h v n ∧ (∀ i : Nat, i < n → σ 235 (i + 1) = mt_cd h (mt_pp h v i))) ∨ (∃ a : Nat, a + 1 < n ∧ σ 215 32 = a + 1 ∧ σ 215 33 = n - 1 - a ∧ mt_eq h (mt_pp h v a) (mt_pp h v (n - 1)) ∧ mq_d h v (n - 1))) → f_X12_powers_u14 Q (f_X12_powers_u128 Q) N σ m (n + 1) := by
    intro N
    induction N with
    | zero => intro n σ n1 hN; omega
    | succ N ih =>
      intro n σ n1 hN f w el D
      unfold f_X12_powers_u14
      refine fun _ => ⟨fun c => ?_, fun c => ?_⟩
      · rcases D with D | ⟨a, a1, a2, a3, a4, a5⟩
        · exact absurd D.1 c
        · obtain ⟨n', rfl⟩ : ∃ n', n = n' + 1 := ⟨n - 1, by omega⟩
          have := E a n' σ (by omega) (by omega) f a2 (by omega) el w a4 a5
          exact this
      rcases D with ⟨_, dd, ec⟩ | ⟨a, a1, a2, _⟩
      · refine s_codeOf h2 h5 ⟨by omega, by omega⟩ (by rw [f.2.1 2 (by omega) (by omega), th]) (M n) (fun e e0 e1 => (w.1 e e0 e1).1) (fun _ => ⟨by omega, by omega, fun σ4 s4 => ⟨by omega, by omega, fun _ => ?_⟩⟩)
        have f4 : mq_f σ σ4 := mq_f_o (fun x h1 h2 h3 h4 => by rw [s4, ml_up_k (by omega)]) (fun b hb => by rw [s4, ml_up_k (by omega)])
        have F4 := mq_f_t f f4
        have w4 : mt_mv h σ4 60 (mt_pp h v n) := mt_mv_o (fun x x0 x1 => by rw [s4, ml_up_k (by omega)]) w
        refine s_closing h2 h5 ⟨by omega, by omega⟩ (by rw [F4.2.1 2 (by omega) (by omega), th]) (M n) hc (fun e e0 e1 => (w4.1 e e0 e1).1) (mq_f_jv F4 jv) (fun τ' f' _ => ⟨by omega, by omega, fun σ8 s8 => ⟨n + 1, ?_⟩⟩)
        rw [w4.2.1] at s8
        have f8 : mq_f σ4 σ8 := mq_f_o (fun x h1 h2 h3 h4 => by rw [s8, ml_up_k (by omega), f' x h1]) (fun b hb => by rw [s8, ml_up_k (by omega), f' 215 (by omega)])
        have w8 : mt_mv h σ8 60 (mt_pp h v n) := mt_mv_o (fun x x0 x1 => by rw [s8, ml_up_k (by omega), f' x (by omega)]) w4
        have F8 := mq_f_t F4 f8
        have b8 : ∀ b, σ8 215 b = σ 215 b := fun b => by rw [s8, ml_up_k (by omega), f' 215 (by omega), s4, ml_up_k (by omega)]
        have c8 : ∀ i : Nat, i < n + 1 → σ8 235 (i + 1) = mt_cd h (mt_pp h v i) := fun i hi => by
          rw [s8, ml_up_k (by omega), f' 235 (by omega), s4]
          by_cases q : i = n
          · subst q; rw [ml_up_same]
          · rw [ml_up_i (by omega)]; exact ec i (by omega)
        have l8 : ∀ i : Nat, i < n + 1 → σ8 236 (i + 1) = mt_plo h v cl i := fun i hi => by
          rw [s8]
          by_cases q : i = n
          · subst q; rw [ml_up_same]; rfl
          · rw [ml_up_i (by omega), f' 236 (by omega), s4, ml_up_k (by omega)]; exact el i (by omega)
        have I : ∀ (N' : Nat) (j : Nat), j ≤ n → n - j < N' → (∀ i : Nat, i < j → ¬ mt_eq h (mt_pp h v i) (mt_pp h v n)) → f_X12_powers_u56 Q (f_X12_powers_u105 Q (f_X12_powers_u14 Q (f_X12_powers_u128 Q) N)) N' σ8 m (n + 1) (j + 1) := by
          intro N'
          induction N' with
          | zero => intro j j1 hN'; omega
          | succ N' ihj =>
            intro j j1 hN' dj
            unfold f_X12_powers_u56
            have out : j = n → f_X12_powers_u105 Q (f_X12_powers_u14 Q (f_X12_powers_u128 Q) N) σ8 m (n + 1) := fun q => by
              subst q
              have d' : mq_d h v (j + 1) := fun x y xy yj => by
                by_cases z : y = j
                · subst z; exact dj x xy
                · exact dd x y xy (by omega)
              have le := mq_d_le h2 h5 hv d'
              refine K j n1 _ σ8 F8 w8 (fun σ' g1 g2 g3 g4 g5 => ih (j + 1) σ' (by omega) (by omega) (mq_f_t F8 g1) g5 (fun i hi => by rw [g3]; exact l8 i hi) (Or.inl ⟨by rw [g4 32 (by omega) (by omega), b8, c], d', fun i hi => by rw [g2]; exact c8 i hi⟩))
            rw [b8 32, c]
            refine ⟨fun q => out (by omega), fun q _ => ⟨fun z => absurd rfl z, fun _ => ⟨by omega, by omega, fun _ => ⟨by omega, by omega, fun _ => ?_⟩⟩⟩⟩
            rw [c8 j (by omega), c8 n (by omega)]
            refine ⟨fun q2 σ7 s7 => ⟨mt_I (by omega) (by omega), fun σ9 s9 => ?_⟩, fun q2 => ?_⟩
            · have eq : mt_eq h (mt_pp h v j) (mt_pp h v n) := (C j n).1 q2
              unfold f_X12_powers_u99
              refine ⟨mt_I (by omega) (by omega), fun y1 e1 => ?_⟩
              have f9 : mq_f σ8 σ9 := mq_f_o (fun x h1 h2 h3 h4 => by rw [s9, ml_up_k h4, s7, ml_up_k h4]) (fun b hb => by rw [s9, ml_up_i (by omega), s7, ml_up_i (by omega)])
              have w9 : mt_mv h σ9 60 (mt_pp h v n) := mt_mv_o (fun x x0 x1 => by rw [s9, ml_up_k (by omega), s7, ml_up_k (by omega)]) w8
              have e32 : σ9 215 32 = j + 1 := by rw [s9, ml_up_i (by omega), s7, ml_up_same]
              have e33 : σ9 215 33 = n - j := by rw [s9, ml_up_same]; omega
              have fin : f_X12_powers_u105 Q (f_X12_powers_u14 Q (f_X12_powers_u128 Q) N) σ9 m (n + 1) := by
                refine K n n1 _ σ9 (mq_f_t F8 f9) w9 (fun σ' g1 g2 g3 g4 g5 => ?_)
                obtain ⟨N', rfl⟩ : ∃ N', N = N' + 1 := ⟨N - 1, by omega⟩
                unfold f_X12_powers_u14
                rw [g4 32 (by omega) (by omega), e32]
                refine fun _ => ⟨fun _ => ?_, fun z => absurd z (by omega)⟩
                refine E j n σ' (by omega) n1 (mq_f_t F8 (mq_f_t f9 g1)) (by rw [g4 32 (by omega) (by omega), e32]) (by rw [g4 33 (by omega) (by omega), e33]) (fun i hi => ?_) g5 eq dd
                rw [g3, s9, ml_up_k (by omega), s7, ml_up_k (by omega)]; exact l8 i hi
              obtain ⟨N'', rfl⟩ : ∃ N'', N' = N'' + 1 := ⟨N' - 1, by omega⟩
              unfold f_X12_powers_u56
              rw [e32]
              exact ⟨fun _ => fin, fun _ _ => ⟨fun _ => fin, fun z => absurd z (by omega)⟩⟩
            · unfold f_X12_powers_u99
              refine ⟨mt_I (by omega) (by omega), fun y1 e1 => ?_⟩
              have e1 : y1 = ((j + 1 : Nat) : Int) + 1 := by omega
              subst e1
              refine ihj (j + 1) (by omega) (by omega) (fun i hi => ?_)
              by_cases z : i = j
              · subst z; exact fun e => q2 ((C i n).2 e)
              · exact dj i (by omega)
        have := I (n + 1) 0 (by omega) (by omega) (fun i hi => absurd hi (by omega))
        exact this
      · exact absurd c (by omega)
  unfold f_X12_powers f_X12_powers_u0
  refine s_copies h2 h5 ⟨m0, by omega⟩ ⟨by omega, by omega⟩ (by omega) th wv (fun σ1 f1 w1 σ2 s2 => ⟨947, ?_⟩)
  have f2 : mq_f σ1 σ2 := mq_f_o (fun x h1 h2 h3 h4 => by rw [s2, ml_up_k h4]) (fun b hb => by rw [s2, ml_up_i (by omega)])
  have := L 947 0 σ2 (by omega) (by omega) (mq_f_t (mq_f_mf (Or.inl rfl) f1) f2) (mt_mv_o (fun x x0 x1 => by rw [s2, ml_up_k (by omega)]) w1) (fun i hi => absurd hi (by omega)) (Or.inl ⟨by rw [s2, ml_up_same], fun i j _ hj => absurd hj (by omega), fun i hi => absurd hi (by omega)⟩)
  exact this
