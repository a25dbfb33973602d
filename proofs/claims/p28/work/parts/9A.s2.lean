/-! the model: powers -/
def mq_f (τ τ' : ml_St) : Prop := (∀ j, j ≠ 232 → j ≠ 234 → j ≠ 235 → j ≠ 236 → j ≠ 215 → ¬ (227 ≤ j ∧ j ≤ 231) → τ' j = τ j) ∧ (∀ b, b ≠ 27 → ¬ (32 ≤ b ∧ b ≤ 37) → τ' 215 b = τ 215 b) ∧ (∀ m, m ≠ 60 → m ≠ 62 → (∀ e, 0 ≤ e → e < 10 → τ' 227 (10 * m + e) = τ 227 (10 * m + e) ∧ τ' 228 (10 * m + e) = τ 228 (10 * m + e)) ∧ τ' 229 m = τ 229 m ∧ τ' 230 m = τ 230 m ∧ τ' 231 m = τ 231 m)
theorem mq_f_r {τ : ml_St} : mq_f τ τ := ⟨fun _ _ _ _ _ _ _ => rfl, fun _ _ _ => rfl, fun _ _ _ => ⟨fun _ _ _ => ⟨rfl, rfl⟩, rfl, rfl, rfl⟩⟩
theorem mq_f_t {τ τ1 τ2 : ml_St} (a : mq_f τ τ1) (b : mq_f τ1 τ2) : mq_f τ τ2 := ⟨fun j h1 h2 h3 h4 h5 h6 => (b.1 j h1 h2 h3 h4 h5 h6).trans (a.1 j h1 h2 h3 h4 h5 h6), fun c h1 h2 => (b.2.1 c h1 h2).trans (a.2.1 c h1 h2), fun m m0 m1 => by
  obtain ⟨x1, x2, x3, x4⟩ := a.2.2 m m0 m1
  obtain ⟨y1, y2, y3, y4⟩ := b.2.2 m m0 m1
  exact ⟨fun e e0 e1 => ⟨(y1 e e0 e1).1.trans (x1 e e0 e1).1, (y1 e e0 e1).2.trans (x1 e e0 e1).2⟩, y2.trans x2, y3.trans x3, y4.trans x4⟩⟩
theorem mq_f_mf {c : Int} {τ τ' : ml_St} (hc : c = 60 ∨ c = 62) (f : mt_mf c τ τ') : mq_f τ τ' := ⟨fun j h1 _ _ _ h5 h6 => f.1 j h5 (by omega) (by omega) (by omega) (by omega) (by omega) h1, fun b h1 _ => f.2.1 b h1, fun m m0 m1 => ⟨fun e e0 e1 => f.2.2.1 _ (by omega), f.2.2.2 m (by omega)⟩⟩
/-- other objects than the weaves -/
theorem mq_f_o {τ τ' : ml_St} (f : ∀ j, j ≠ 234 → j ≠ 235 → j ≠ 236 → j ≠ 215 → τ' j = τ j) (b : ∀ b, ¬ (32 ≤ b ∧ b ≤ 37) → τ' 215 b = τ 215 b) : mq_f τ τ' := ⟨fun j _ h2 h3 h4 h5 _ => f j h2 h3 h4 h5, fun c _ h2 => b c h2, fun m _ _ => by
  rw [f 227 (by omega) (by omega) (by omega) (by omega), f 228 (by omega) (by omega) (by omega) (by omega), f 229 (by omega) (by omega) (by omega) (by omega), f 230 (by omega) (by omega) (by omega) (by omega), f 231 (by omega) (by omega) (by omega) (by omega)]
  exact ⟨fun _ _ _ => ⟨rfl, rfl⟩, rfl, rfl, rfl⟩⟩
theorem mq_f_mv {h m : Int} {τ τ' : ml_St} {v : Int → Int} (h5 : h ≤ 5) (m0 : m ≠ 60) (m1 : m ≠ 62) (f : mq_f τ τ') (w : mt_mv h τ m v) : mt_mv h τ' m v := by
  obtain ⟨x1, x2, x3, x4⟩ := f.2.2 m m0 m1
  refine ⟨fun e e0 e1 => ?_, x2.trans w.2.1, x3.trans w.2.2.1, x4.trans w.2.2.2⟩
  exact ⟨(x1 e e0 (by omega)).1.trans (w.1 e e0 e1).1, (x1 e e0 (by omega)).2.trans (w.1 e e0 e1).2⟩
theorem mq_f_kq {τ τ' : ml_St} (f : mq_f τ τ') : mt_kq τ τ' := ⟨fun b h1 h2 => f.2.1 b (by omega) (by omega), fun j h1 h2 => f.1 j (by omega) (by omega) (by omega) (by omega) (by omega) (by omega), fun m m0 m1 => f.2.2 m (by omega) (by omega), fun j hj => f.1 j (by omega) (by omega) (by omega) (by omega) (by omega) (by omega)⟩
theorem mq_f_jv {h : Int} {τ τ' : ml_St} {cl : Int → Int} (f : mq_f τ τ') (j : mt_jv h τ cl) : mt_jv h τ' cl := by
  unfold mt_jv; rw [f.2.1 4 (by omega) (by omega), f.1 217 (by omega) (by omega) (by omega) (by omega) (by omega) (by omega)]; exact j
/-- weaves stay where only other objects change -/
theorem mt_mv_o {h m : Int} {τ τ' : ml_St} {v : Int → Int} (f : ∀ j, 227 ≤ j → j ≤ 231 → τ' j = τ j) (w : mt_mv h τ m v) : mt_mv h τ' m v := by
  unfold mt_mv; rw [f 227 (by omega) (by omega), f 228 (by omega) (by omega), f 229 (by omega) (by omega), f 230 (by omega) (by omega), f 231 (by omega) (by omega)]; exact w
/-- powers' numbers: the power of row a + 1 comes again at row n + 1, as the first one -/
def mq_d (h : Int) (v : Int → Int) (n : Nat) : Prop := ∀ i j : Nat, i < j → j < n → ¬ mt_eq h (mt_pp h v i) (mt_pp h v j)
def mq_p (h : Int) (v cl : Int → Int) (a n : Nat) (σ : ml_St) : Prop := a < n ∧ n ≤ 945 ∧ σ 215 32 = a + 1 ∧ σ 215 33 = n - a ∧ σ 215 34 = 2 * n - a + 1 ∧ σ 215 35 = w64 (mt_plo h v cl n - mt_plo h v cl a) ∧ (∀ i : Nat, (i : Int) < 2 * n - a + 1 → σ 236 (i + 1) = mt_plo h v cl i) ∧ mt_eq h (mt_pp h v a) (mt_pp h v n) ∧ mq_d h v n
theorem mq_d_le {h : Int} {v : Int → Int} {n : Nat} (h2 : 2 ≤ h) (h5 : h ≤ 5) (hv : mt_M h v) (d : mq_d h v n) : n ≤ 945 := by
  by_cases q : n ≤ 945
  · exact q
  · obtain ⟨i, j, hij, hj, e⟩ := mt_ph 945 (fun i => (mt_num h (mt_pp h v i) : Int)) (fun i _ => ⟨by show (0:Int) ≤ _; omega, by have := mt_num_lt h2 h5 (mt_pp_M h5 hv i); show ((mt_num h (mt_pp h v i) : Nat) : Int) < 945; omega⟩)
    have e : ((mt_num h (mt_pp h v i) : Nat) : Int) = mt_num h (mt_pp h v j) := e
    exact absurd (mt_num_inj h2 h5 (mt_pp_M h5 hv i) (mt_pp_M h5 hv j) (by omega)) (d i j hij (by omega))
theorem s_powers {Q : ml_St → Prop} {m h : Int} {τ0 : ml_St} {v cl : Int → Int} (h2 : 2 ≤ h) (h5 : h ≤ 5) (m0 : 0 ≤ m) (m1 : m < 60) (th : τ0 215 2 = h) (hv : mt_M h v) (wv : mt_mv h τ0 m v) (hc : mt_M h cl) (jv : mt_jv h τ0 cl) (k : ∀ σ (a n : Nat), mq_f τ0 σ → mq_p h v cl a n σ → Q σ) : f_X12_powers τ0 m Q := by
  have M := fun n => mt_pp_M h5 hv n
  have C : ∀ i j : Nat, mt_cd h (mt_pp h v i) = mt_cd h (mt_pp h v j) ↔ mt_eq h (mt_pp h v i) (mt_pp h v j) := fun i j => mt_cd_iff (by omega) h5 (M i) (M j)
  -- rows past the first recurrence
  have K : ∀ (n : Nat), n ≤ 945 → ∀ (K' : ml_St → Int → Int → Prop) (σ : ml_St), mq_f τ0 σ → mt_mv h σ 60 (mt_pp h v n) → (∀ σ', mq_f σ σ' → σ' 235 = σ 235 → σ' 236 = σ 236 → (∀ b, 32 ≤ b → b ≤ 35 → σ' 215 b = σ 215 b) → mt_mv h σ' 60 (mt_pp h v (n + 1)) → K' σ' m ((n + 1 : Nat) + 1)) → f_X12_powers_u105 Q K' σ m (n + 1) := by
    intro n n1 K' σ f w kk
    unfold f_X12_powers_u105
    refine s_lays h2 h5 ⟨by omega, by omega⟩ ⟨m0, by omega⟩ ⟨by omega, by omega⟩ (by rw [f.2.1 2 (by omega) (by omega), th]) (M n) hv w (mq_f_mv h5 (by omega) (by omega) f wv) (by omega) (by omega) (fun σ1 f1 w1 => ?_)
    refine s_copies h2 h5 ⟨by omega, by omega⟩ ⟨by omega, by omega⟩ (by omega) (by rw [f1.2.1 2 (by omega), f.2.1 2 (by omega) (by omega), th]) w1 (fun σ2 f2 w2 => ⟨mt_I (by omega) (by omega), fun y e => ?_⟩)
    have e : y = ((n + 1 : Nat) : Int) + 1 := by omega
    subst e
    exact kk σ2 (mq_f_t (mq_f_mf (Or.inr rfl) f1) (mq_f_mf (Or.inl rfl) f2)) (by rw [f2.1 235 (by omega) (by omega) (by omega) (by omega) (by omega) (by omega) (by omega), f1.1 235 (by omega) (by omega) (by omega) (by omega) (by omega) (by omega) (by omega)]) (by rw [f2.1 236 (by omega) (by omega) (by omega) (by omega) (by omega) (by omega) (by omega), f1.1 236 (by omega) (by omega) (by omega) (by omega) (by omega) (by omega) (by omega)]) (fun b b0 b1 => by rw [f2.2.1 b (by omega), f1.2.1 b (by omega)]) w2
  -- the end
  have E : ∀ (a n : Nat) (σ : ml_St), a < n → n ≤ 945 → mq_f τ0 σ → σ 215 32 = a + 1 → σ 215 33 = n - a → (∀ i : Nat, i < n + 1 → σ 236 (i + 1) = mt_plo h v cl i) → mt_mv h σ 60 (mt_pp h v (n + 1)) → mt_eq h (mt_pp h v a) (mt_pp h v n) → mq_d h v n → f_X12_powers_u128 Q σ m ((n + 1 : Nat) + 1) := by
    intro a n σ an n1 f e1 e2 el w ee dd
    unfold f_X12_powers_u128
    rw [e1, e2]
    refine fun _ _ => ⟨mt_I (by omega) (by omega), mt_I (by omega) (by omega), fun σ5 s5 => ⟨1000, ?_⟩⟩
    have L : ∀ (N : Nat) (j : Nat) (σ : ml_St), n + 1 ≤ j → (j : Int) ≤ 2 * n - a + 1 → 2 * (n : Int) - a + 1 - j < N → mq_f τ0 σ → σ 215 32 = a + 1 → σ 215 33 = n - a → σ 215 34 = 2 * n - a + 1 → (∀ i : Nat, i < j → σ 236 (i + 1) = mt_plo h v cl i) → mt_mv h σ 60 (mt_pp h v j) → f_X12_powers_u143 Q (f_X12_powers_u195 Q) N σ m (j + 1) := by
      intro N
      induction N with
      | zero => intro j σ j0 j1 hN; omega
      | succ N ih =>
        intro j σ j0 j1 hN f e1 e2 e3 el w
        unfold f_X12_powers_u143
        rw [e3]
        refine fun _ => ⟨fun c => ?_, fun c => ⟨by omega, by omega, fun _ => ?_⟩⟩
        · unfold f_X12_powers_u195
          have x1 := el n (by omega)
          have x2 := el a (by omega)
          rw [e1, e2, show (a : Int) + 1 + (n - a) = n + 1 by omega, x1, x2]
          refine fun _ _ => ⟨mt_I (by omega) (by omega), by omega, by omega, fun _ _ => ⟨by omega, by omega, fun _ σ8 s8 => ?_⟩⟩
          have f8 : mq_f σ σ8 := by rw [s8]; exact mq_f_o (fun j _ _ _ h => ml_up_k h) (fun b hb => ml_up_i (by omega))
          refine k σ8 a n (mq_f_t f f8) ⟨an, n1, ?_, ?_, ?_, ?_, ?_, ee, dd⟩
          · rw [s8, ml_up_i (by omega), e1]
          · rw [s8, ml_up_i (by omega), e2]
          · rw [s8, ml_up_i (by omega), e3]
          · rw [s8, ml_up_same]
          · intro i hi; rw [s8, ml_up_k (by omega)]; exact el i (by omega)
        refine s_closing h2 h5 ⟨by omega, by omega⟩ (by rw [f.2.1 2 (by omega) (by omega), th]) (M j) hc (fun e e0 e1 => (w.1 e e0 e1).1) (mq_f_jv f jv) (fun τ' f' _ => ⟨by omega, by omega, fun σ6 s6 => ?_⟩)
        rw [w.2.1] at s6
        have f6 : mq_f σ σ6 := mq_f_o (fun x h1 h2 h3 h4 => by rw [s6, ml_up_k (by omega), f' x h1]) (fun b hb => by rw [s6, ml_up_k (by omega), f' 215 (by omega)])
        have w6 : mt_mv h σ6 60 (mt_pp h v j) := mt_mv_o (fun x x0 x1 => by rw [s6, ml_up_k (by omega), f' x (by omega)]) w
        have F6 := mq_f_t f f6
        refine s_lays h2 h5 ⟨by omega, by omega⟩ ⟨m0, by omega⟩ ⟨by omega, by omega⟩ (by rw [F6.2.1 2 (by omega) (by omega), th]) (M j) hv w6 (mq_f_mv h5 (by omega) (by omega) F6 wv) (by omega) (by omega) (fun σ7 f7 w7 => ?_)
        refine s_copies h2 h5 ⟨by omega, by omega⟩ ⟨by omega, by omega⟩ (by omega) (by rw [f7.2.1 2 (by omega), F6.2.1 2 (by omega) (by omega), th]) w7 (fun σ8 f8 w8 => ⟨mt_I (by omega) (by omega), fun y e => ?_⟩)
        have e : y = ((j + 1 : Nat) : Int) + 1 := by omega
        subst e
        have b : ∀ b, 32 ≤ b → b ≤ 35 → σ8 215 b = σ 215 b := fun b b0 b1 => by rw [f8.2.1 b (by omega), f7.2.1 b (by omega), s6, ml_up_k (by omega), f' 215 (by omega)]
        have l8 : σ8 236 = σ6 236 := by rw [f8.1 236 (by omega) (by omega) (by omega) (by omega) (by omega) (by omega) (by omega), f7.1 236 (by omega) (by omega) (by omega) (by omega) (by omega) (by omega) (by omega)]
        refine ih (j + 1) σ8 (by omega) (by omega) (by omega) (mq_f_t F6 (mq_f_t (mq_f_mf (Or.inr rfl) f7) (mq_f_mf (Or.inl rfl) f8))) (by rw [b 32 (by omega) (by omega), e1]) (by rw [b 33 (by omega) (by omega), e2]) (by rw [b 34 (by omega) (by omega), e3]) (fun i hi => ?_) w8
        rw [l8, s6]
        by_cases q : i = j
        · subst q; rw [ml_up_same]; rfl
        · rw [ml_up_i (by omega), f' 236 (by omega)]; exact el i (by omega)
    have f5 : mq_f σ σ5 := by rw [s5]; exact mq_f_o (fun j _ _ _ h => ml_up_k h) (fun b hb => ml_up_i (by omega))
    refine L 1000 (n + 1) σ5 (by omega) (by omega) (by omega) (mq_f_t f f5) (by rw [s5, ml_up_i (by omega), e1]) (by rw [s5, ml_up_i (by omega), e2]) (by rw [s5, ml_up_same]; omega) (fun i hi => by rw [s5, ml_up_k (by omega)]; exact el i hi) (mt_mv_o (fun x x0 x1 => by rw [s5, ml_up_k (by omega)]) w)
  -- the rows before
  have L : ∀ (N : Nat) (n : Nat) (σ : ml_St), n ≤ 945 → 946 - (n : Int) < N → mq_f τ0 σ → mt_mv h σ 60 (mt_pp h v n) → (∀ i : Nat, i < n → σ 236 (i + 1) = mt_plo h v cl i) → ((σ 215 32 = 0 ∧ mq_d h v n ∧ (∀ i : Nat, i < n → σ 235 (i + 1) = mt_cd h (mt_pp h v i))) ∨ (∃ a : Nat, a + 1 < n ∧ σ 215 32 = a + 1 ∧ σ 215 33 = n - 1 - a ∧ mt_eq h (mt_pp h v a) (mt_pp h v (n - 1)) ∧ mq_d h v (n - 1))) → f_X12_powers_u14 Q (f_X12_powers_u128 Q) N σ m (n + 1) := by
    intro N
    induction N with
    | zero => intro n σ n1 hN; omega
    | succ N ih =>
      intro n σ n1 hN f w el D
      unfold f_X12_powers_u14
      refine fun _ => ⟨fun c => ?_, fun c => ?_⟩
      · rcases D with D | ⟨a, a1, a2, a3, a4, a5⟩
        · exact absurd D.1 c
        · obtain ⟨n', rfl⟩ : ∃ n', n = n' + 1 := ⟨n - 1, by omega⟩
          have := E a n' σ (by omega) (by omega) f a2 (by omega) el w a4 a5
          exact this
      rcases D with ⟨_, dd, ec⟩ | ⟨a, a1, a2, _⟩
      · refine s_codeOf h2 h5 ⟨by omega, by omega⟩ (by rw [f.2.1 2 (by omega) (by omega), th]) (M n) (fun e e0 e1 => (w.1 e e0 e1).1) (fun _ => ⟨by omega, by omega, fun σ4 s4 => ⟨by omega, by omega, fun _ => ?_⟩⟩)
        have f4 : mq_f σ σ4 := mq_f_o (fun x h1 h2 h3 h4 => by rw [s4, ml_up_k (by omega)]) (fun b hb => by rw [s4, ml_up_k (by omega)])
        have F4 := mq_f_t f f4
        have w4 : mt_mv h σ4 60 (mt_pp h v n) := mt_mv_o (fun x x0 x1 => by rw [s4, ml_up_k (by omega)]) w
        refine s_closing h2 h5 ⟨by omega, by omega⟩ (by rw [F4.2.1 2 (by omega) (by omega), th]) (M n) hc (fun e e0 e1 => (w4.1 e e0 e1).1) (mq_f_jv F4 jv) (fun τ' f' _ => ⟨by omega, by omega, fun σ8 s8 => ⟨n + 1, ?_⟩⟩)
        rw [w4.2.1] at s8
        have f8 : mq_f σ4 σ8 := mq_f_o (fun x h1 h2 h3 h4 => by rw [s8, ml_up_k (by omega), f' x h1]) (fun b hb => by rw [s8, ml_up_k (by omega), f' 215 (by omega)])
        have w8 : mt_mv h σ8 60 (mt_pp h v n) := mt_mv_o (fun x x0 x1 => by rw [s8, ml_up_k (by omega), f' x (by omega)]) w4
        have F8 := mq_f_t F4 f8
        have b8 : ∀ b, σ8 215 b = σ 215 b := fun b => by rw [s8, ml_up_k (by omega), f' 215 (by omega), s4, ml_up_k (by omega)]
        have c8 : ∀ i : Nat, i < n + 1 → σ8 235 (i + 1) = mt_cd h (mt_pp h v i) := fun i hi => by
          rw [s8, ml_up_k (by omega), f' 235 (by omega), s4]
          by_cases q : i = n
          · subst q; rw [ml_up_same]
          · rw [ml_up_i (by omega)]; exact ec i (by omega)
        have l8 : ∀ i : Nat, i < n + 1 → σ8 236 (i + 1) = mt_plo h v cl i := fun i hi => by
          rw [s8]
          by_cases q : i = n
          · subst q; rw [ml_up_same]; rfl
          · rw [ml_up_i (by omega), f' 236 (by omega), s4, ml_up_k (by omega)]; exact el i (by omega)
        have I : ∀ (N' : Nat) (j : Nat), j ≤ n → n - j < N' → (∀ i : Nat, i < j → ¬ mt_eq h (mt_pp h v i) (mt_pp h v n)) → f_X12_powers_u56 Q (f_X12_powers_u105 Q (f_X12_powers_u14 Q (f_X12_powers_u128 Q) N)) N' σ8 m (n + 1) (j + 1) := by
          intro N'
          induction N' with
          | zero => intro j j1 hN'; omega
          | succ N' ihj =>
            intro j j1 hN' dj
            unfold f_X12_powers_u56
            have out : j = n → f_X12_powers_u105 Q (f_X12_powers_u14 Q (f_X12_powers_u128 Q) N) σ8 m (n + 1) := fun q => by
              subst q
              have d' : mq_d h v (j + 1) := fun x y xy yj => by
                by_cases z : y = j
                · subst z; exact dj x xy
                · exact dd x y xy (by omega)
              have le := mq_d_le h2 h5 hv d'
              refine K j n1 _ σ8 F8 w8 (fun σ' g1 g2 g3 g4 g5 => ih (j + 1) σ' (by omega) (by omega) (mq_f_t F8 g1) g5 (fun i hi => by rw [g3]; exact l8 i hi) (Or.inl ⟨by rw [g4 32 (by omega) (by omega), b8, c], d', fun i hi => by rw [g2]; exact c8 i hi⟩))
            rw [b8 32, c]
            refine ⟨fun q => out (by omega), fun q _ => ⟨fun z => absurd rfl z, fun _ => ⟨by omega, by omega, fun _ => ⟨by omega, by omega, fun _ => ?_⟩⟩⟩⟩
            rw [c8 j (by omega), c8 n (by omega)]
            refine ⟨fun q2 σ7 s7 => ⟨mt_I (by omega) (by omega), fun σ9 s9 => ?_⟩, fun q2 => ?_⟩
            · have eq : mt_eq h (mt_pp h v j) (mt_pp h v n) := (C j n).1 q2
              unfold f_X12_powers_u99
              refine ⟨mt_I (by omega) (by omega), fun y1 e1 => ?_⟩
              have f9 : mq_f σ8 σ9 := mq_f_o (fun x h1 h2 h3 h4 => by rw [s9, ml_up_k h4, s7, ml_up_k h4]) (fun b hb => by rw [s9, ml_up_i (by omega), s7, ml_up_i (by omega)])
              have w9 : mt_mv h σ9 60 (mt_pp h v n) := mt_mv_o (fun x x0 x1 => by rw [s9, ml_up_k (by omega), s7, ml_up_k (by omega)]) w8
              have e32 : σ9 215 32 = j + 1 := by rw [s9, ml_up_i (by omega), s7, ml_up_same]
              have e33 : σ9 215 33 = n - j := by rw [s9, ml_up_same]; omega
              have fin : f_X12_powers_u105 Q (f_X12_powers_u14 Q (f_X12_powers_u128 Q) N) σ9 m (n + 1) := by
                refine K n n1 _ σ9 (mq_f_t F8 f9) w9 (fun σ' g1 g2 g3 g4 g5 => ?_)
                obtain ⟨N', rfl⟩ : ∃ N', N = N' + 1 := ⟨N - 1, by omega⟩
                unfold f_X12_powers_u14
                rw [g4 32 (by omega) (by omega), e32]
                refine fun _ => ⟨fun _ => ?_, fun z => absurd z (by omega)⟩
                refine E j n σ' (by omega) n1 (mq_f_t F8 (mq_f_t f9 g1)) (by rw [g4 32 (by omega) (by omega), e32]) (by rw [g4 33 (by omega) (by omega), e33]) (fun i hi => ?_) g5 eq dd
                rw [g3, s9, ml_up_k (by omega), s7, ml_up_k (by omega)]; exact l8 i hi
              obtain ⟨N'', rfl⟩ : ∃ N'', N' = N'' + 1 := ⟨N' - 1, by omega⟩
              unfold f_X12_powers_u56
              rw [e32]
              exact ⟨fun _ => fin, fun _ _ => ⟨fun _ => fin, fun z => absurd z (by omega)⟩⟩
            · unfold f_X12_powers_u99
              refine ⟨mt_I (by omega) (by omega), fun y1 e1 => ?_⟩
              have e1 : y1 = ((j + 1 : Nat) : Int) + 1 := by omega
              subst e1
              refine ihj (j + 1) (by omega) (by omega) (fun i hi => ?_)
              by_cases z : i = j
              · subst z; exact fun e => q2 ((C i n).2 e)
              · exact dj i (by omega)
        have := I (n + 1) 0 (by omega) (by omega) (fun i hi => absurd hi (by omega))
        exact this
      · exact absurd c (by omega)
  unfold f_X12_powers f_X12_powers_u0
  refine s_copies h2 h5 ⟨m0, by omega⟩ ⟨by omega, by omega⟩ (by omega) th wv (fun σ1 f1 w1 σ2 s2 => ⟨947, ?_⟩)
  have f2 : mq_f σ1 σ2 := mq_f_o (fun x h1 h2 h3 h4 => by rw [s2, ml_up_k h4]) (fun b hb => by rw [s2, ml_up_i (by omega)])
  have := L 947 0 σ2 (by omega) (by omega) (mq_f_t (mq_f_mf (Or.inl rfl) f1) f2) (mt_mv_o (fun x x0 x1 => by rw [s2, ml_up_k (by omega)]) w1) (fun i hi => absurd hi (by omega)) (Or.inl ⟨by rw [s2, ml_up_same], fun i j _ hj => absurd hj (by omega), fun i hi => absurd hi (by omega)⟩)
  exact this
/-! the model: power, left, rule, those, first -/
theorem mb_l2i2 {x : Int} (h0 : -2147483648 ≤ x) (h1 : x ≤ 2147483647) : b_l2i x = x := by
  unfold b_l2i
  rw [Int64.toInt32_ofInt, Int32.toInt_ofInt, Int.bmod_def, show ((Int32.size : Nat) : Int) = 4294967296 from rfl]
  split <;> omega
theorem s_plus_t {Q : Int → ml_St → Prop} {x y : Int} {τ : ml_St} (k : ∀ r, I64 r → Q r τ) : f_X12_plus τ x y Q := by
  unfold f_X12_plus f_X12_plus_u0 f_X12_plus_u19
  exact ⟨fun _ => k _ (w64_r _), fun _ => k _ ⟨by omega, by omega⟩⟩
theorem s_times_t {Q : Int → ml_St → Prop} {x y : Int} {τ : ml_St} (k : ∀ r, I64 r → Q r τ) : f_X12_times τ x y Q := by
  unfold f_X12_times f_X12_times_u0 f_X12_times_u22 f_X12_times_u25
  exact ⟨fun _ => k _ (w64_r _), fun h => ⟨h, fun _ => k _ (w64_r _), fun _ => k _ ⟨by omega, by omega⟩⟩⟩
/-- the powers of a word that is made -/
theorem m_powers {Q : ml_St → Prop} {h told ts cap w : Int} {tb cl pr sz : Int → Int} {T : Int → Int → Int} {τ : ml_St} (i : IM h told ts cap tb cl pr sz T τ) (q : mt_md told (mt_mk h T sz) w) (k : ∀ σ (a n : Nat), IM h told ts cap tb cl pr sz T σ → (∀ j, j < 215 → σ j = τ j) → mq_p h (mt_mk h T sz w) cl a n σ → Q σ) : f_X12_powers τ w Q := by
  obtain ⟨g1, g2, g3, g4, g5⟩ := IM_w i q
  exact s_powers i.1.2.2.1 i.1.2.2.2.1 g4 (by omega) i.1.1 g2 g1 i.2.2.1.2.2.2 i.2.2.1.2.2.1 (fun σ a n f p => k σ a n (IM_kq (mq_f_kq f) i) (mq_f_kq f).2.2.2 p)
theorem m_power {Q : Int → ml_St → Prop} {h told ts cap w x : Int} {tb cl pr sz : Int → Int} {T : Int → Int → Int} {τ : ml_St} (i : IM h told ts cap tb cl pr sz T τ) (k1 : mt_md told (mt_mk h T sz) w → 0 ≤ x → x ≤ 1 → ∀ σ (a n : Nat), IM h told ts cap tb cl pr sz T σ → (∀ j, j < 215 → σ j = τ j) → mq_p h (mt_mk h T sz w) cl a n σ → Q (if x = 0 then (a : Int) + 1 else n - a) σ) (k0 : ¬ (mt_md told (mt_mk h T sz) w ∧ 0 ≤ x ∧ x ≤ 1) → Q (-1) τ) : f_X12_power τ w x Q := by
  unfold f_X12_power f_X12_power_u0
  unfold f_X12_power_u18 f_X12_power_u40
  refine m_isMade i (fun q _ => ⟨fun z => absurd z (by omega), fun _ => s_lies (fun x0 x1 _ => ⟨fun _ => m_powers i q (fun σ a n i' j' p => ?_), fun z => absurd z (by omega)⟩) (fun q2 _ => ⟨fun z => absurd rfl z, fun _ => k0 (fun z => q2 z.2)⟩)⟩) (fun q _ => ⟨fun _ => k0 (fun z => q z.1), fun z => absurd rfl z⟩)
  have k := k1 q x0 x1 σ a n i' j' p
  rw [p.2.2.1, p.2.2.2.1]
  refine ⟨fun z _ => ?_, fun z _ => ?_⟩
  · rw [if_neg z] at k; exact k
  · rw [if_pos z] at k; exact k
theorem s_isPower12 {Q : Int → ml_St → Prop} {x : Int} {τ : ml_St} (k1 : 1 ≤ x → x ≤ 1000000000000000000 → Q 1 τ) (k0 : ¬ (1 ≤ x ∧ x ≤ 1000000000000000000) → Q 0 τ) : f_X12_isPower τ x Q := by
  unfold f_X12_isPower f_X12_isPower_u0 f_X12_isPower_u18 f_X12_isPower_u19
  exact ⟨fun _ => k0 (by omega), fun _ => ⟨fun _ => k0 (by omega), fun _ => k1 (by omega) (by omega)⟩⟩
theorem s_isLoops12 {Q : Int → ml_St → Prop} {x : Int} {τ : ml_St} (k1 : 0 ≤ x → x ≤ 1000000000000000000 → Q 1 τ) (k0 : ¬ (0 ≤ x ∧ x ≤ 1000000000000000000) → Q 0 τ) : f_X12_isLoops τ x Q := by
  unfold f_X12_isLoops f_X12_isLoops_u0 f_X12_isLoops_u18 f_X12_isLoops_u19
  exact ⟨fun _ => k0 (by omega), fun _ => ⟨fun _ => k0 (by omega), fun _ => k1 (by omega) (by omega)⟩⟩
theorem m_left {Q : Int → ml_St → Prop} {h told ts cap w x : Int} {tb cl pr sz : Int → Int} {T : Int → Int → Int} {τ : ml_St} (i : IM h told ts cap tb cl pr sz T τ) (k : ∀ r σ, IM h told ts cap tb cl pr sz T σ → (∀ j, j < 215 → σ j = τ j) → Q r σ) : f_X12_left τ w x Q := by
  have z0 : Q (-1) τ := k _ τ i (fun _ _ => rfl)
  unfold f_X12_left f_X12_left_u0
  unfold f_X12_left_u15
  refine m_isMade i (fun q _ => ⟨fun z => absurd z (by omega), fun _ => s_isPower12 (fun x0 x1 _ => ⟨fun _ => m_powers i q (fun σ a n i' j' p => ?_), fun z => absurd z (by omega)⟩) (fun q2 _ => ⟨fun z => absurd rfl z, fun _ => z0⟩)⟩) (fun q _ => ⟨fun _ => z0, fun z => absurd rfl z⟩)
  obtain ⟨p1, p2, p3, p4, p5, p6, p7, p8, p9⟩ := p
  rw [p3, p4, p5]
  refine fun _ => ⟨fun c _ _ _ => ?_, fun c => ?_⟩
  · have e1 : w64 (x - (a + 1)) = x - (a + 1) := w64_id ⟨by omega, by omega⟩
    have tm : Int.tmod (x - (a + 1)) (n - a) = (x - (a + 1)) % (n - a) := Int.tmod_eq_emod_of_nonneg (by omega)
    have m0 := Int.emod_nonneg (x - (a + 1)) (show (n : Int) - a ≠ 0 by omega)
    have m1 := Int.emod_lt_of_pos (x - (a + 1)) (show 0 < (n : Int) - a by omega)
    rw [e1, tm, mb_l2i2 (by omega) (by omega)]
    exact ⟨by omega, mt_I (by omega) (by omega), fun y e => ⟨by omega, by omega, fun _ _ => ⟨by omega, fun _ => s_times_t (fun r _ _ => s_plus_t (fun r2 _ _ => k _ σ i' j'))⟩⟩⟩
  · rw [mb_l2i2 (by omega) (by omega)]
    exact ⟨by omega, by omega, fun _ => k _ σ i' j'⟩
theorem s_isRule {Q : Int → ml_St → Prop} {h p : Int} {v cl : Int → Int} {a n : Nat} {σ : ml_St} (h2 : 0 ≤ h) (h5 : h ≤ 5) (hv : mt_M h v) (ov : mt_ok h v) (hc : mt_M h cl) (pp : mq_p h v cl a n σ) (p0 : 1 ≤ p) (p1 : p ≤ n - a) (k1 : Q 1 σ) (k0 : p < n - a → Q 0 σ) : f_X12_isRule σ p Q := by
  obtain ⟨p1, p2, p3, p4, p5, p6, p7, p8, p9⟩ := pp
  unfold f_X12_isRule f_X12_isRule_u0
  rw [p3]
  refine fun _ => ⟨mt_I (by omega) (by omega), by omega, by omega, fun _ _ => ⟨by omega, by omega, fun _ y7 e7 _ y9 e9 => ⟨1000, ?_⟩⟩⟩
  subst e9
  have L : ∀ (N : Nat) (j : Nat), (j : Int) ≤ n - a → n - a - j < N → f_X12_isRule_u28 Q (f_X12_isRule_u64 Q) (f_X12_isRule_u72 Q) N σ p y7 (a + 1 + j) := by
    intro N
    induction N with
    | zero => intro j j0 hN; omega
    | succ N ih =>
      intro j j0 hN
      unfold f_X12_isRule_u28
      rw [p3, p4]
      refine fun _ _ => ⟨mt_I (by omega) (by omega), fun c => ?_, fun c => ⟨mt_I (by omega) (by omega), by omega, by omega, fun _ => ⟨by omega, by omega, fun _ => ⟨fun _ => ⟨mt_I (by omega) (by omega), fun y e => ?_⟩, fun c2 => ?_⟩⟩⟩⟩
      · unfold f_X12_isRule_u72; exact k1
      · have := ih (j + 1) (by omega) (by omega)
        rw [e, show (a : Int) + 1 + j + 1 = a + 1 + ((j + 1 : Nat) : Int) by omega]; exact this
      · unfold f_X12_isRule_u64
        refine k0 ?_
        by_cases z : p = n - a
        · refine absurd ?_ c2
          have x1 := p7 (n + j) (by omega)
          have x2 := p7 (a + j) (by omega)
          have x3 := p7 n (by omega)
          have x4 := p7 a (by omega)
          rw [e7, z, show (a : Int) + 1 + j + (n - a) = ((n + j : Nat) : Int) + 1 by omega, show (a : Int) + 1 + j = ((a + j : Nat) : Int) + 1 by omega, show (a : Int) + 1 + (n - a) = n + 1 by omega, x1, x2, x3, x4]
          exact mt_lo_d h2 h5 hv ov hc p8 j
        · omega
  have := L 1000 0 (by omega) (by omega)
  rw [show (a : Int) + 1 + ((0 : Nat) : Int) = a + 1 by omega] at this
  exact this
theorem m_rule {Q : Int → ml_St → Prop} {h told ts cap w x : Int} {tb cl pr sz : Int → Int} {T : Int → Int → Int} {τ : ml_St} (i : IM h told ts cap tb cl pr sz T τ) (k : ∀ r σ, IM h told ts cap tb cl pr sz T σ → (∀ j, j < 215 → σ j = τ j) → Q r σ) : f_X12_rule τ w x Q := by
  have z0 : Q (-1) τ := k _ τ i (fun _ _ => rfl)
  have h2 := i.1.2.2.1
  have h5 := i.1.2.2.2.1
  unfold f_X12_rule f_X12_rule_u0
  unfold f_X12_rule_u20
  refine m_isMade i (fun q _ => ⟨fun z => absurd z (by omega), fun _ => s_lies (fun x0 x1 _ => ⟨fun _ => m_powers i q (fun σ a n i' j' p => ⟨1000, ?_⟩), fun z => absurd z (by omega)⟩) (fun q2 _ => ⟨fun z => absurd rfl z, fun _ => z0⟩)⟩) (fun q _ => ⟨fun _ => z0, fun z => absurd rfl z⟩)
  obtain ⟨g1, g2, g3, g4, g5⟩ := IM_w i' q
  have E : ∀ j : Int, 1 ≤ j → j ≤ n - a → f_X12_rule_u45 Q σ x j := by
    obtain ⟨p1, p2, p3, p4, p5, p6, p7, p8, p9⟩ := p
    intro j j0 j1
    unfold f_X12_rule_u45
    rw [p3]
    refine fun _ => ⟨mt_I (by omega) (by omega), by omega, by omega, fun _ _ => ⟨by omega, by omega, fun _ y7 e7 _ y9 e9 => ⟨a + 3, ?_⟩⟩⟩
    have L : ∀ (N : Nat) (y : Int), 0 ≤ y → y ≤ a + 1 → y + 1 < N → f_X12_rule_u74 Q (f_X12_rule_u113 Q) N σ x j y7 y := by
      intro N
      induction N with
      | zero => intro y y0 y1 hN; omega
      | succ N ih =>
        intro y y0 y1 hN
        have out : f_X12_rule_u113 Q σ x j y7 y := by
          unfold f_X12_rule_u113 f_X12_rule_u135
          exact ⟨fun _ => ⟨fun _ => k _ σ i' j', fun _ => k _ σ i' j'⟩, fun _ => k _ σ i' j'⟩
        unfold f_X12_rule_u74
        refine ⟨fun _ => out, fun c => ⟨mt_I (by omega) (by omega), mt_I (by omega) (by omega), by omega, by omega, fun _ => ⟨mt_I (by omega) (by omega), by omega, by omega, fun _ => ⟨fun _ => out, fun _ => ⟨mt_I (by omega) (by omega), fun y9 e => ?_⟩⟩⟩⟩⟩
        subst e
        exact ih _ (by omega) (by omega) (by omega)
    exact L _ y9 (by omega) (by omega) (by omega)
  have L : ∀ (N : Nat) (j : Int), 1 ≤ j → j ≤ n - a → n - a - j < N → f_X12_rule_u31 Q (f_X12_rule_u45 Q) N σ x j := by
    intro N
    induction N with
    | zero => intro j j0 j1 hN; omega
    | succ N ih =>
      intro j j0 j1 hN
      unfold f_X12_rule_u31
      refine s_isRule (by omega) h5 g2 g3 i'.2.2.1.2.2.2 p j0 j1 (fun _ => ⟨fun _ => E j j0 j1, fun z => absurd z (by omega)⟩) (fun c _ => ⟨fun z => absurd rfl z, fun _ => ⟨mt_I (by have := p.2.1; omega) (by have := p.2.1; omega), fun y e => ?_⟩⟩)
      subst e
      exact ih (j + 1) (by omega) (by omega) (by omega)
  exact L 1000 1 (by omega) (by have := p.1; omega) (by have := p.2.1; omega)
theorem s_ofResidue {Q : Int → ml_St → Prop} {x1 x2 x4 x6 : Int} {τ : ml_St} (x0 : 0 ≤ x1) (x9 : x1 < 2900) (p : τ 215 33 ≠ 0) (k : ∀ r v, I64 r → Q r (ml_up τ 215 36 v)) : f_X12_ofResidue τ x1 x2 x4 x6 Q := by
  unfold f_X12_ofResidue f_X12_ofResidue_u0
  intro σ1 s1
  have e33 : σ1 215 33 = τ 215 33 := by rw [s1, ml_up_i (by omega)]
  have k1 : ∀ r, I64 r → Q r σ1 := fun r hr => by rw [s1]; exact k r 0 hr
  have k2 : ∀ r v, I64 r → Q r (ml_up σ1 215 36 v) := fun r v hr => by
    have : ml_up σ1 215 36 v = ml_up τ 215 36 v := by
      rw [s1]; funext j b
      by_cases q : j = 215
      · subst q
        by_cases q2 : b = 36
        · subst q2; rw [ml_up_same, ml_up_same]
        · rw [ml_up_i q2, ml_up_i q2, ml_up_i q2]
      · rw [ml_up_k q, ml_up_k q, ml_up_k q]
    rw [this]; exact k r v hr
  have z0 : I64 0 := ⟨by omega, by omega⟩
  have o0 : I64 1 := ⟨by omega, by omega⟩
  have U : ∀ s, f_X12_ofResidue_u68 Q σ1 x6 s := fun s => by
    unfold f_X12_ofResidue_u68
    exact ⟨fun _ σ2 s2 _ => ⟨by rw [s2, ml_up_i (by omega), e33]; exact p, by rw [s2]; exact k2 _ _ (w64_r _)⟩, fun _ => k1 0 z0⟩
  rw [e33]
  unfold f_X12_ofResidue_u129 f_X12_ofResidue_u171
  exact fun _ => ⟨fun c => ⟨x0, x9, fun _ => ⟨fun _ => k1 0 z0, fun _ => ⟨x0, x9, fun _ _ => ⟨c, fun _ => ⟨x0, x9, fun _ _ => ⟨c, fun y15 _ _ => ⟨p, fun _ => k1 0 z0, fun _ => ⟨fun _ _ y24 _ => ⟨fun _ σ26 s26 => by rw [s26]; exact k2 1 _ o0, fun _ => k1 0 z0⟩, fun _ => k1 0 z0⟩⟩⟩⟩, fun _ => k1 0 z0⟩⟩⟩⟩, fun _ => ⟨x0, x9, fun _ => ⟨fun _ => ⟨fun _ _ _ => ⟨p, fun _ => U _⟩, fun _ => U _⟩, fun _ => k1 0 z0⟩⟩⟩
/-- what thoseOf changes after powers -/
theorem mq_37 {h told ts cap : Int} {tb cl pr sz : Int → Int} {T : Int → Int → Int} {σ σ' : ml_St} (i : IM h told ts cap tb cl pr sz T σ) (f : ∀ j, j ≠ 215 → σ' j = σ j) (b : ∀ b, b ≠ 36 → b ≠ 37 → σ' 215 b = σ 215 b) : IM h told ts cap tb cl pr sz T σ' := IM_kq (mt_kq_o (fun j hj => f j (by omega)) (fun c h1 h2 => b c (by omega) (by omega))) i
theorem m_thoseOf {Q : Int → ml_St → Prop} {h told ts cap w x f t : Int} {tb cl pr sz : Int → Int} {T : Int → Int → Int} {τ : ml_St} (i : IM h told ts cap tb cl pr sz T τ) (q : mt_md told (mt_mk h T sz) w) (k : ∀ r σ, IM h told ts cap tb cl pr sz T σ → (∀ j, j < 215 → σ j = τ j) → Q r σ) : f_X12_thoseOf τ w x f t Q := by
  unfold f_X12_thoseOf f_X12_thoseOf_u0
  refine m_powers i q (fun σ a n i' j' p σ2 s2 => ⟨1000, ?_⟩)
  obtain ⟨p1, p2, p3, p4, -⟩ := p
  have L2 : ∀ (N : Nat) (j : Int) (y : Int) (σ : ml_St), a + 1 ≤ j → j ≤ n + 1 → n + 1 - j < N → IM h told ts cap tb cl pr sz T σ → (∀ j, j < 215 → σ j = τ j) → σ 215 32 = a + 1 → σ 215 33 = n - a → f_X12_thoseOf_u99 Q (f_X12_thoseOf_u173 Q) N σ x f t y j := by
    intro N
    induction N with
    | zero => intro j y σ j0 j1 hN; omega
    | succ N ih =>
      intro j y σ j0 j1 hN i' j' e1 e2
      unfold f_X12_thoseOf_u99
      rw [e1, e2]
      refine fun _ _ => ⟨mt_I (by omega) (by omega), fun c => ?_, fun c => s_ofResidue (by omega) (by omega) (by omega) (fun r v _ _ y7 e7 _ => ?_)⟩
      · unfold f_X12_thoseOf_u173; exact k _ σ i' j'
      have U : ∀ σ', (∀ j, j ≠ 215 → σ' j = σ j) → (∀ b, b ≠ 36 → b ≠ 37 → σ' 215 b = σ 215 b) → f_X12_thoseOf_u167 Q (f_X12_thoseOf_u99 Q (f_X12_thoseOf_u173 Q) N) σ' x f t y7 j := fun σ' g1 g2 => by
        unfold f_X12_thoseOf_u167
        refine ⟨mt_I (by omega) (by omega), fun y e => ?_⟩
        subst e
        exact ih (j + 1) y7 σ' (by omega) (by omega) (by omega) (mq_37 i' g1 g2) (fun j hj => by rw [g1 j (by omega), j' j hj]) (by rw [g2 32 (by omega) (by omega), e1]) (by rw [g2 33 (by omega) (by omega), e2])
      have U2 : f_X12_thoseOf_u159 Q (f_X12_thoseOf_u99 Q (f_X12_thoseOf_u173 Q) N) (ml_up σ 215 36 v) x f t y7 j := by
        unfold f_X12_thoseOf_u159
        intro _ σ2 s2
        exact U σ2 (fun j hj => by rw [s2, ml_up_k hj, ml_up_k hj]) (fun b h1 h2 => by rw [s2, ml_up_i h2, ml_up_i h1])
      have U1 := U (ml_up σ 215 36 v) (fun j hj => ml_up_k hj) (fun b h1 h2 => ml_up_i h1)
      exact ⟨fun _ => U1, fun _ _ => ⟨fun _ => U2, fun _ _ _ => ⟨fun _ => U1, fun _ => U2⟩⟩⟩
  have L1 : ∀ (N : Nat) (j : Int) (y : Int) (σ : ml_St), 1 ≤ j → j ≤ a + 1 → a + 1 - j < N → IM h told ts cap tb cl pr sz T σ → (∀ j, j < 215 → σ j = τ j) → σ 215 32 = a + 1 → σ 215 33 = n - a → f_X12_thoseOf_u16 Q (f_X12_thoseOf_u93 Q) N σ x f t y j := by
    intro N
    induction N with
    | zero => intro j y σ j0 j1 hN; omega
    | succ N ih =>
      intro j y σ j0 j1 hN i' j' e1 e2
      unfold f_X12_thoseOf_u16
      rw [e1]
      refine fun _ => ⟨fun c => ?_, fun c => ⟨by omega, by omega, fun _ => ?_⟩⟩
      · unfold f_X12_thoseOf_u93
        rw [e1]
        refine fun _ y2 e => ⟨1000, ?_⟩
        subst e
        exact L2 1000 _ y σ (by omega) (by omega) (by omega) i' j' e1 e2
      have U : ∀ σ' y, (∀ j, j ≠ 215 → σ' j = σ j) → (∀ b, b ≠ 36 → b ≠ 37 → σ' 215 b = σ 215 b) → f_X12_thoseOf_u87 Q (f_X12_thoseOf_u16 Q (f_X12_thoseOf_u93 Q) N) σ' x f t y j := fun σ' y g1 g2 => by
        unfold f_X12_thoseOf_u87
        refine ⟨mt_I (by omega) (by omega), fun y1 e => ?_⟩
        subst e
        exact ih (j + 1) y σ' (by omega) (by omega) (by omega) (mq_37 i' g1 g2) (fun j hj => by rw [g1 j (by omega), j' j hj]) (by rw [g2 32 (by omega) (by omega), e1]) (by rw [g2 33 (by omega) (by omega), e2])
      have U1 := U σ y (fun _ _ => rfl) (fun _ _ _ => rfl)
      have U2 : ∀ s y8, f_X12_thoseOf_u84 Q (f_X12_thoseOf_u16 Q (f_X12_thoseOf_u93 Q) N) σ x f t y8 j s := fun s y8 => by
        unfold f_X12_thoseOf_u84
        intro σ1 s1
        exact U σ1 y8 (fun j hj => by rw [s1, ml_up_k hj]) (fun b h1 h2 => by rw [s1, ml_up_i h2])
      exact ⟨fun _ => U1, fun _ => ⟨fun _ => U1, fun _ => ⟨fun _ y8 _ _ => ⟨fun _ _ => U2 _ _, fun _ => U2 _ _⟩, fun _ => U1⟩⟩⟩
  have g1 : ∀ j, j ≠ 215 → σ2 j = σ j := fun j hj => by rw [s2, ml_up_k hj]
  have g2 : ∀ b, b ≠ 36 → b ≠ 37 → σ2 215 b = σ 215 b := fun b _ h2 => by rw [s2, ml_up_i h2]
  exact L1 1000 1 0 σ2 (by omega) (by omega) (by omega) (mq_37 i' g1 g2) (fun j hj => by rw [g1 j (by omega), j' j hj]) (by rw [g2 32 (by omega) (by omega), p3]) (by rw [g2 33 (by omega) (by omega), p4])
theorem m_those {Q : Int → ml_St → Prop} {h told ts cap w x f t : Int} {tb cl pr sz : Int → Int} {T : Int → Int → Int} {τ : ml_St} (i : IM h told ts cap tb cl pr sz T τ) (k : ∀ r σ, IM h told ts cap tb cl pr sz T σ → (∀ j, j < 215 → σ j = τ j) → Q r σ) : f_X12_those τ w x f t Q := by
  have z0 : Q (-1) τ := k _ τ i (fun _ _ => rfl)
  unfold f_X12_those f_X12_those_u0
  unfold f_X12_those_u52 f_X12_those_u55
  exact m_isMade i (fun q _ => ⟨fun z => absurd z (by omega), fun _ => s_isLoops12 (fun _ _ _ => ⟨fun z => absurd z (by omega), fun _ => s_isPower12 (fun _ _ _ => ⟨fun z => absurd z (by omega), fun _ => s_isPower12 (fun _ _ _ => ⟨fun z => absurd z (by omega), fun _ => ⟨fun _ => z0, fun _ => m_thoseOf i q (fun r σ i' j' _ => k r σ i' j')⟩⟩) (fun _ _ => ⟨fun _ => z0, fun z => absurd rfl z⟩)⟩) (fun _ _ => ⟨fun _ => z0, fun z => absurd rfl z⟩)⟩) (fun _ _ => ⟨fun _ => z0, fun z => absurd rfl z⟩)⟩) (fun q _ => ⟨fun _ => z0, fun z => absurd rfl z⟩)
theorem m_first {Q : Int → ml_St → Prop} {h told ts cap w x : Int} {tb cl pr sz : Int → Int} {T : Int → Int → Int} {τ : ml_St} (i : IM h told ts cap tb cl pr sz T τ) (k : ∀ r σ, IM h told ts cap tb cl pr sz T σ → (∀ j, j < 215 → σ j = τ j) → Q r σ) : f_X12_first τ w x Q := by
  have z0 : Q (-1) τ := k _ τ i (fun _ _ => rfl)
  unfold f_X12_first f_X12_first_u0
  unfold f_X12_first_u15 f_X12_first_u44
  exact m_isMade i (fun q _ => ⟨fun z => absurd z (by omega), fun _ => s_isLoops12 (fun _ _ _ => ⟨fun _ => m_thoseOf i q (fun r σ i' j' _ => ⟨fun _ _ => k _ σ i' j', fun _ => k _ σ i' j'⟩), fun z => absurd z (by omega)⟩) (fun _ _ => ⟨fun z => absurd rfl z, fun _ => z0⟩)⟩) (fun q _ => ⟨fun _ => z0, fun z => absurd rfl z⟩)
/-! the model: letters, states and what joins them -/
/-- what stays true in a search: what is kept between calls, the class's objects, nl letters -/
def mq_L (h told ts cap : Int) (tb cl pr sz : Int → Int) (T : Int → Int → Int) (τ0 : ml_St) (nl : Int) (σ : ml_St) : Prop := IM h told ts cap tb cl pr sz T σ ∧ (∀ j, j < 215 → σ j = τ0 j) ∧ σ 215 38 = nl ∧ 0 ≤ nl ∧ nl ≤ 6 ∧ ∀ i, 0 ≤ i → i < nl → mt_md told (mt_mk h T sz) (σ 237 i)
theorem mq_L_k {h told ts cap nl : Int} {tb cl pr sz : Int → Int} {T : Int → Int → Int} {τ0 σ σ' : ml_St} (q : mt_kq σ σ') (e1 : σ' 215 38 = σ 215 38) (e2 : σ' 237 = σ 237) (i : mq_L h told ts cap tb cl pr sz T τ0 nl σ) : mq_L h told ts cap tb cl pr sz T τ0 nl σ' := by
  obtain ⟨i1, i2, i3, i4, i5, i6⟩ := i
  exact ⟨IM_kq q i1, fun j hj => by rw [q.2.2.2 j hj, i2 j hj], by rw [e1, i3], i4, i5, by rw [e2]; exact i6⟩
theorem mq_L_mf {h told ts cap nl c : Int} {tb cl pr sz : Int → Int} {T : Int → Int → Int} {τ0 σ σ' : ml_St} (c16 : 16 ≤ c) (q : mt_mf c σ σ') (i : mq_L h told ts cap tb cl pr sz T τ0 nl σ) : mq_L h told ts cap tb cl pr sz T τ0 nl σ' := mq_L_k (mt_kq_mf c16 q) (q.2.1 38 (by omega)) (q.1 237 (by omega) (by omega) (by omega) (by omega) (by omega) (by omega) (by omega)) i
theorem s_has {Q : Int → ml_St → Prop} {x w : Int} {σ : ml_St} (k1 : mb_t x w = 1 → Q 1 σ) (k0 : mb_t x w = 0 → Q 0 σ) : f_X12_has σ x w Q := by
  unfold f_X12_has f_X12_has_u0 f_X12_has_u14
  refine ⟨fun c => k0 ?_, fun c => k1 c⟩
  rcases mb_t_01 x w with h | h
  · exact h
  · exact absurd h c
theorem s_isLetters {Q : Int → ml_St → Prop} {h told ts cap set : Int} {tb cl pr sz : Int → Int} {T : Int → Int → Int} {τ0 : ml_St} (i : IM h told ts cap tb cl pr sz T τ0) (k0 : ¬ mt_ls told (mt_mk h T sz) set → ∀ σ, IM h told ts cap tb cl pr sz T σ → (∀ j, j < 215 → σ j = τ0 j) → Q 0 σ) (k1 : mt_ls told (mt_mk h T sz) set → ∀ σ nl, mq_L h told ts cap tb cl pr sz T τ0 nl σ → ic_L set told nl (σ 237) → Q 1 σ) : f_X12_isLetters τ0 set Q := by
  obtain ⟨a1, a2, h2, h5, t0, t16⟩ := i.1
  have mono : ∀ w : Nat, (w : Int) ≤ told → mt_bc set w ≤ mt_bc set told.toNat := fun w hw => by
    have := (mt_bc_m (set := set) (a := w) (told.toNat - w)).2
    rw [show w + (told.toNat - w) = told.toNat by omega] at this
    exact this
  have L : ∀ (N : Nat) (w n : Int) (σ : ml_St), 1 ≤ set → set < ((2 ^ told.toNat : Nat) : Int) → 0 ≤ w → w ≤ told → told - w < N → 0 ≤ n → n ≤ 6 → n = mt_bc set w.toNat → (∀ v : Nat, (v : Int) < w → mb_t set v = 1 → σ 237 (mt_bc set v) = v ∧ mt_md told (mt_mk h T sz) v) → IM h told ts cap tb cl pr sz T σ → (∀ j, j < 215 → σ j = τ0 j) → (∀ i, 0 ≤ i → i < n → mt_md told (mt_mk h T sz) (σ 237 i)) → f_X12_isLetters_u24 Q (f_X12_isLetters_u57 Q) (f_X12_isLetters_u75 Q) N σ set n w := by
    intro N
    induction N with
    | zero => intro w n σ _ _ w0 w1 hN; omega
    | succ N ih =>
      intro w n σ s1 s2 w0 w1 hN n0 n6 en hv i' f l
      have wN : ((w.toNat : Nat) : Int) = w := by omega
      have bs := mt_bc_s set w.toNat
      rw [wN] at bs
      have bn : ∀ x, mb_t set w = x → mt_bc set (w + 1).toNat = n + x := fun x hx => by rw [show (w + 1).toNat = w.toNat + 1 by omega, bs, en, hx]
      have U : ∀ (n : Int) (σ : ml_St), 0 ≤ n → n ≤ 6 → n = mt_bc set (w + 1).toNat → (∀ v : Nat, (v : Int) < w + 1 → mb_t set v = 1 → σ 237 (mt_bc set v) = v ∧ mt_md told (mt_mk h T sz) v) → IM h told ts cap tb cl pr sz T σ → (∀ j, j < 215 → σ j = τ0 j) → (∀ i, 0 ≤ i → i < n → mt_md told (mt_mk h T sz) (σ 237 i)) → w < told → f_X12_isLetters_u69 Q (f_X12_isLetters_u24 Q (f_X12_isLetters_u57 Q) (f_X12_isLetters_u75 Q) N) σ set n w := by
        intro n σ n0 n6 en hv i' f l wt
        unfold f_X12_isLetters_u69
        refine ⟨mt_I (by omega) (by omega), fun y e => ?_⟩
        subst e
        exact ih (w + 1) n σ s1 s2 (by omega) (by omega) (by omega) n0 n6 en hv i' f l
      unfold f_X12_isLetters_u24
      rw [i'.1.2.1]
      refine fun _ => ⟨fun c => ?_, fun c => s_has (fun b1 _ => ⟨fun _ => ?_, fun z => absurd z (by omega)⟩) (fun b0 _ => ⟨fun z => absurd rfl z, fun _ => U n σ n0 n6 (by rw [bn 0 b0]; omega) (fun v v0 v1 => by
        by_cases z : (v : Int) = w
        · rw [z, b0] at v1; omega
        · exact hv v (by omega) v1) i' f l (by omega)⟩)⟩
      · unfold f_X12_isLetters_u75
        intro σ1 g1
        have wt : w = told := by omega
        subst wt
        have md : ∀ v, 0 ≤ v → v < w → mb_t set v ≠ 0 → mt_md w (mt_mk h T sz) v := fun v v0 v1 v2 => by
          have := (hv v.toNat (by omega) (by rw [show ((v.toNat : Nat) : Int) = v by omega]; exact (mb_t_01 set v).resolve_left v2)).2
          rw [show ((v.toNat : Nat) : Int) = v by omega] at this
          exact this
        refine k1 ⟨s1, s2, by omega, md⟩ σ1 n ⟨IM_kq (mt_kq_o (fun j hj => by rw [g1, ml_up_k (by omega)]) (fun b b1 b2 => by rw [g1, ml_up_i (by omega)])) i', fun j hj => by rw [g1, ml_up_k (by omega), f j hj], by rw [g1, ml_up_same], n0, n6, fun i i0 i1 => by rw [g1, ml_up_k (by omega)]; exact l i i0 i1⟩ ⟨en, fun v v0 v1 => by rw [g1, ml_up_k (by omega)]; exact (hv v v0 v1).1⟩
      have wt : w < told := by omega
      obtain ⟨c1, c2, c3, c4⟩ := IM_cv i' w0 wt
      have nn := (i'.2.2.2.2 w w0 wt).2.1
      refine s_isTooLong12 w0 (by omega) nn.1 nn.2 c3 c4 (fun q _ => ⟨fun _ => ?_, fun z => absurd z (by omega)⟩) (fun q _ => ⟨fun z => absurd rfl z, fun _ => ⟨fun n6' => ⟨n0, by omega, fun σ8 s8 => ⟨mt_I (by omega) (by omega), fun y e => ?_⟩⟩, fun _ => ?_⟩⟩)
      · unfold f_X12_isLetters_u57
        refine k0 (fun y => ?_) σ i' f
        have := (y.2.2.2 w w0 wt (by omega)).2.2
        have := (mt_cv_23 c1).1 this
        omega
      · subst e
        refine U (n + 1) σ8 (by omega) (by omega) (by rw [bn 1 b1]) (fun v v0 v1 => ?_) (IM_kq (mt_kq_o (fun j hj => by rw [s8, ml_up_k (by omega)]) (fun b b1 b2 => by rw [s8, ml_up_k (by omega)])) i') (fun j hj => by rw [s8, ml_up_k (by omega), f j hj]) (fun i i0 i1 => ?_) wt
        · rw [s8]
          by_cases z : (v : Int) = w
          · have : v = w.toNat := by omega
            rw [this, ← en, ml_up_same, wN]; exact ⟨rfl, w0, wt, (mt_cv_23 c1).2 (by omega)⟩
          · have m1 := (mt_bc_m (set := set) (a := v + 1) (w.toNat - (v + 1))).2
            rw [show v + 1 + (w.toNat - (v + 1)) = w.toNat by omega, mt_bc_s, v1] at m1
            rw [ml_up_i (by omega)]; exact hv v (by omega) v1
        · rw [s8]
          by_cases z : i = n
          · rw [z, ml_up_same]; exact ⟨w0, wt, (mt_cv_23 c1).2 (by omega)⟩
          · rw [ml_up_i z]; exact l i i0 (by omega)
      · unfold f_X12_isLetters_u57
        refine k0 (fun y => ?_) σ i' f
        have m1 := mono (w.toNat + 1) (by omega)
        have := y.2.2.1
        rw [mt_bc_s, wN, b1] at m1
        omega
  unfold f_X12_isLetters f_X12_isLetters_u0
  rw [a2]
  have es := mb_shl (r := told.toNat) (by omega)
  rw [show ((told.toNat : Nat) : Int) = told by omega] at es
  have pb : ((2 ^ told.toNat : Nat) : Int) ≤ 65536 := by
    have := Nat.pow_le_pow_right (show 0 < 2 by omega) (show told.toNat ≤ 16 by omega)
    omega
  have pc : 0 ≤ ((2 ^ told.toNat : Nat) : Int) := Int.natCast_nonneg _
  rw [es]
  exact fun _ => ⟨⟨by omega, by omega⟩, s_lies (fun s1 s2 _ => ⟨fun _ => ⟨20, L 20 0 0 τ0 s1 (by omega) (by omega) t0 (by omega) (by omega) (by omega) rfl (fun v v0 _ => by omega) i (fun _ _ => rfl) (fun i i0 i1 => absurd i1 (by omega))⟩, fun z => absurd z (by omega)⟩) (fun ns _ => ⟨fun z => absurd rfl z, fun _ => k0 (fun y => ns ⟨y.1, by have := y.2.1; omega⟩) τ0 i (fun _ _ => rfl)⟩)⟩
/-- the states: different matchings -/
def mq_s (h : Int) (cl : Int → Int) (F : Nat → Int → Int) (c : Nat) (σ : ml_St) : Prop := σ 215 39 = c ∧ (∀ i : Nat, i < c → mt_M h (F i) ∧ σ 238 i = mt_cd h (F i) ∧ (∀ e, 0 ≤ e → e < 2 * h → σ 239 (10 * i + e) = F i e) ∧ σ 243 i = mt_cl h (F i) cl) ∧ ∀ i j : Nat, i < j → j < c → ¬ mt_eq h (F i) (F j)
theorem mq_s_le {h : Int} {cl : Int → Int} {F : Nat → Int → Int} {c : Nat} {σ : ml_St} (h2 : 2 ≤ h) (h5 : h ≤ 5) (s : mq_s h cl F c σ) : c ≤ 945 := by
  by_cases q : c ≤ 945
  · exact q
  · obtain ⟨i, j, hij, hj, e⟩ := mt_ph 945 (fun i => (mt_num h (F i) : Int)) (fun i hi => ⟨by show (0:Int) ≤ _; omega, by have := mt_num_lt h2 h5 (s.2.1 i (by omega)).1; show ((mt_num h (F i) : Nat) : Int) < 945; omega⟩)
    have e : ((mt_num h (F i) : Nat) : Int) = mt_num h (F j) := e
    exact absurd (mt_num_inj h2 h5 (s.2.1 i (by omega)).1 (s.2.1 j (by omega)).1 (by omega)) (s.2.2 i j hij (by omega))
theorem mq_s_k {h : Int} {cl : Int → Int} {F : Nat → Int → Int} {c : Nat} {σ σ' : ml_St} (e1 : σ' 215 39 = σ 215 39) (e2 : σ' 238 = σ 238) (e3 : σ' 239 = σ 239) (e4 : σ' 243 = σ 243) (s : mq_s h cl F c σ) : mq_s h cl F c σ' := by
  unfold mq_s; rw [e1, e2, e3, e4]; exact s
theorem mt_cl_r {h : Int} {α β : Int → Int} (h2 : 0 ≤ h) (h5 : h ≤ 5) (ha : mt_M h α) (hb : mt_M h β) : 0 ≤ mt_cl h α β ∧ mt_cl h α β ≤ 10 := by
  have := mt_lbs_C h5 ha hb (2 * h).toNat (by omega)
  unfold mt_cl; omega
theorem mb_i2b10 {x : Int} (h0 : 0 ≤ x) (h1 : x < 10) : b_i2b x = x := by
  have k : ∀ n : Nat, n < 10 → b_i2b (n : Int) = n := by decide +kernel
  have := k x.toNat (by omega)
  rw [show ((x.toNat : Nat) : Int) = x by omega] at this
  exact this
theorem s_stateOf {Q : Int → ml_St → Prop} {m h : Int} {cl f : Int → Int} {F : Nat → Int → Int} {c : Nat} {σ0 : ml_St} (h2 : 2 ≤ h) (h5 : h ≤ 5) (r : 0 ≤ m ∧ m < 64) (th : σ0 215 2 = h) (hf : mt_M h f) (ra : ∀ e, 0 ≤ e → e < 2 * h → σ0 227 (10 * m + e) = f e) (hc : mt_M h cl) (jv : mt_jv h σ0 cl) (s : mq_s h cl F c σ0) (k : ∀ σ (n c' : Nat) (F' : Nat → Int → Int), (∀ j, j ≠ 215 → j ≠ 234 → j ≠ 238 → j ≠ 239 → j ≠ 243 → σ j = σ0 j) → (∀ b, b ≠ 39 → σ 215 b = σ0 215 b) → mq_s h cl F' c' σ → c ≤ c' → (∀ i, i < c → F' i = F i) → n < c' → mt_eq h (F' n) f → I32 n → ((n < c ∧ c' = c) ∨ (n = c ∧ c' = c + 1)) → Q n σ) : f_X12_stateOf σ0 m Q := by
  have hc0 := mq_s_le h2 h5 s
  obtain ⟨s1, s2, s3⟩ := id s
  have NEW : (∀ i, i < c → ¬ mt_eq h (F i) f) → f_X12_stateOf_u39 Q σ0 m (mt_cd h f) := by
    intro nf
    have F1 : ∀ i, i < c → (fun i => if i = c then f else F i) i = F i := fun i hi => by dsimp only; rw [if_neg (by omega)]
    have F2 : (fun i => if i = c then f else F i) c = f := by dsimp only; rw [if_pos rfl]
    generalize hF : (fun i => if i = c then f else F i) = F' at F1 F2
    have d' : ∀ i j : Nat, i < j → j < c + 1 → ¬ mt_eq h (F' i) (F' j) := fun i j ij jc => by
      by_cases z : j = c
      · rw [z, F2, F1 i (by omega)]; exact nf i (by omega)
      · rw [F1 i (by omega), F1 j (by omega)]; exact s3 i j ij (by omega)
    have le : c + 1 ≤ 945 := by
      by_cases q : c + 1 ≤ 945
      · exact q
      · have M' : ∀ i, i < c + 1 → mt_M h (F' i) := fun i hi => by
          by_cases z : i = c
          · rw [z, F2]; exact hf
          · rw [F1 i (by omega)]; exact (s2 i (by omega)).1
        obtain ⟨i, j, hij, hj, e⟩ := mt_ph 945 (fun i => (mt_num h (F' i) : Int)) (fun i hi => ⟨by show (0:Int) ≤ _; omega, by have := mt_num_lt h2 h5 (M' i (by omega)); show ((mt_num h (F' i) : Nat) : Int) < 945; omega⟩)
        have e : ((mt_num h (F' i) : Nat) : Int) = mt_num h (F' j) := e
        exact absurd (mt_num_inj h2 h5 (M' i (by omega)) (M' j (by omega)) (by omega)) (d' i j hij (by omega))
    unfold f_X12_stateOf_u39
    rw [s1]
    refine fun _ => ⟨by omega, by omega, fun σ2 t2 => ⟨11, ?_⟩⟩
    have L : ∀ (N : Nat) (e : Int) (σ : ml_St), 0 ≤ e → e ≤ 2 * h → 2 * h - e < N → (∀ j, j ≠ 239 → σ j = σ2 j) → (∀ q : Int, (q < 10 * c ∨ 10 * c + 10 ≤ q) → σ 239 q = σ0 239 q) → (∀ e', 0 ≤ e' → e' < e → σ 239 (10 * c + e') = f e') → f_X12_stateOf_u52 Q (f_X12_stateOf_u97 Q) N σ m e := by
      intro N
      induction N with
      | zero => intro e σ e0 e1 hN; omega
      | succ N ih =>
        intro e σ e0 e1 hN g lo hi
        have e39 : σ 215 39 = c := by rw [g 215 (by omega), t2, ml_up_k (by omega), s1]
        have e2 : σ 215 2 = h := by rw [g 215 (by omega), t2, ml_up_k (by omega), th]
        unfold f_X12_stateOf_u52
        rw [e39, e2]
        refine fun _ => ⟨mt_I (by omega) (by omega), fun q => ?_, fun q _ => ⟨mt_I (by omega) (by omega), mt_I (by omega) (by omega), mt_I (by omega) (by omega), mt_I (by omega) (by omega), by omega, by omega, fun _ => ⟨by omega, by omega, fun σ10 s10 => ⟨mt_I (by omega) (by omega), fun y ey => ?_⟩⟩⟩⟩
        · unfold f_X12_stateOf_u97
          rw [e39]
          have a227 : σ 227 = σ0 227 := by rw [g 227 (by omega), t2, ml_up_k (by omega)]
          have jv' : mt_jv h σ cl := by unfold mt_jv; rw [g 215 (by omega), g 217 (by omega), t2, ml_up_k (by omega), ml_up_k (by omega)]; exact jv
          refine fun _ => s_closing h2 h5 r e2 hf hc (fun e e0 e1 => by rw [a227]; exact ra e e0 e1) jv' (fun τ' f' _ => ⟨by omega, by omega, fun σ3 s3' => ?_⟩)
          have b3 : σ3 215 39 = c := by rw [s3', ml_up_k (by omega), f' 215 (by omega), e39]
          rw [b3]
          refine fun _ => ⟨mt_I (by omega) (by omega), fun σ6 s6 => ?_⟩
          have b6 : σ6 215 39 = c + 1 := by rw [s6, ml_up_same]
          rw [b6]
          refine fun _ => ⟨mt_I (by omega) (by omega), ?_⟩
          rw [show (c : Int) + 1 - 1 = c by omega]
          have fr : ∀ j, j ≠ 215 → j ≠ 234 → j ≠ 238 → j ≠ 239 → j ≠ 243 → σ6 j = σ0 j := fun j h1 h2 h3 h4 h5 => by rw [s6, ml_up_k h1, s3', ml_up_k h5, f' j h2, g j h4, t2, ml_up_k h3]
          refine k σ6 c (c + 1) F' fr (fun b hb => by rw [s6, ml_up_i hb, s3', ml_up_k (by omega), f' 215 (by omega), g 215 (by omega), t2, ml_up_k (by omega)]) ⟨by rw [b6]; omega, fun i ii => ?_, d'⟩ (by omega) F1 (by omega) (by rw [F2]; exact fun _ _ _ => rfl) (mt_I (by omega) (by omega)) (Or.inr ⟨rfl, rfl⟩)
          have e238 : σ6 238 = σ2 238 := by rw [s6, ml_up_k (by omega), s3', ml_up_k (by omega), f' 238 (by omega), g 238 (by omega)]
          have e239 : σ6 239 = σ 239 := by rw [s6, ml_up_k (by omega), s3', ml_up_k (by omega), f' 239 (by omega)]
          have e243 : σ6 243 = σ3 243 := by rw [s6, ml_up_k (by omega)]
          rw [e238, e239, e243]
          by_cases z : i = c
          · rw [z, F2]
            exact ⟨hf, by rw [t2, ml_up_same], fun e e0 e1 => hi e e0 (by omega), by rw [s3', ml_up_same]⟩
          · rw [F1 i (by omega)]
            obtain ⟨y1, y2, y3, y4⟩ := s2 i (by omega)
            refine ⟨y1, by rw [t2, ml_up_i (by omega), y2], fun e e0 e1 => ?_, ?_⟩
            · rw [lo _ (by omega)]; exact y3 e e0 e1
            · rw [s3', ml_up_i (by omega), f' 243 (by omega), g 243 (by omega), t2, ml_up_k (by omega), y4]
        · have a227 : σ 227 (10 * m + e) = f e := by rw [g 227 (by omega), t2, ml_up_k (by omega)]; exact ra e e0 (by omega)
          have fe := hf e e0 (by omega)
          rw [a227, mb_i2b10 fe.1 (by omega)] at s10
          subst ey
          refine ih (e + 1) σ10 (by omega) (by omega) (by omega) (fun j hj => by rw [s10, ml_up_k hj, g j hj]) (fun q hq => by rw [s10, ml_up_i (by omega)]; exact lo q hq) (fun e' e0' e1' => ?_)
          rw [s10]
          by_cases z : e' = e
          · rw [z, ml_up_same]
          · rw [ml_up_i (by omega)]; exact hi e' e0' (by omega)
    exact L 11 0 σ2 (by omega) (by omega) (by omega) (fun _ _ => rfl) (fun q _ => by rw [t2, ml_up_k (by omega)]) (fun e' h1 h2 => absurd h2 (by omega))
  have L : ∀ (N : Nat) (i : Nat), i ≤ c → c - i < N → (∀ j, j < i → ¬ mt_eq h (F j) f) → f_X12_stateOf_u9 Q (f_X12_stateOf_u30 Q) (f_X12_stateOf_u39 Q) N σ0 m (mt_cd h f) i := by
    intro N
    induction N with
    | zero => intro i i1 hN; omega
    | succ N ih =>
      intro i i1 hN nf
      unfold f_X12_stateOf_u9
      rw [s1]
      refine fun _ => ⟨fun q => NEW (fun j hj => nf j (by omega)), fun q => ⟨by omega, by omega, ?_⟩⟩
      obtain ⟨y1, y2, y3, y4⟩ := s2 i (by omega)
      rw [y2]
      refine fun _ => ⟨fun ne => ⟨mt_I (by omega) (by omega), fun y e => ?_⟩, fun e => ?_⟩
      · have e : y = ((i + 1 : Nat) : Int) := by omega
        subst e
        refine ih (i + 1) (by omega) (by omega) (fun j hj => ?_)
        by_cases z : j = i
        · rw [z]; exact fun e => ne ((mt_cd_iff (by omega) h5 y1 hf).2 e)
        · exact nf j (by omega)
      · unfold f_X12_stateOf_u30
        exact k σ0 i c F (fun _ _ _ _ _ _ => rfl) (fun _ _ => rfl) s (Nat.le_refl c) (fun _ _ => rfl) (by omega) ((mt_cd_iff (by omega) h5 y1 hf).1 e) (mt_I (by omega) (by omega)) (Or.inl ⟨by omega, rfl⟩)
  unfold f_X12_stateOf f_X12_stateOf_u0
  exact s_codeOf h2 h5 r th hf ra (fun _ => ⟨c + 1, L (c + 1) 0 (by omega) (by omega) (fun j hj => absurd hj (by omega))⟩)
/-! the model: joinsAll, made, many -/
theorem mq_20 {h C : Int} {v : Int → Int} (cv : mt_cv h v C) (m : v 23 ≤ mt_mst) : 0 ≤ v 20 ∧ v 20 ≤ 5000000000000 := by
  have hc : C ≤ mt_mst := (mt_cv_23 cv).1 m
  have C0 := cv.1
  obtain ⟨l1, l2, l3⟩ := cv.2.2.2.2 hc
  unfold mt_mst at hc
  refine ⟨l1, ?_⟩
  by_cases z : C = 0
  · have := (l2 z).2.1
    have z0 : mt_str h 20 = 0 := by unfold mt_str; rw [if_neg (by omega)]
    omega
  · have := l3 (by omega); omega
/-- one letter of one place more -/
theorem mt_bf_s {h L P P' frm i : Int} {lt S S' nx nx' : Int → Int → Int} (b : mt_bf h L lt S nx P frm i) (f0 : 0 ≤ frm) (fP : frm < P) (i0 : 0 ≤ i) (iL : i < L) (t1 : ∀ q, 0 ≤ q → q < P → mt_eq h (S' q) (S q)) (tw : ∀ q, 0 ≤ q → q < P → mq_w (S' q) = mq_w (S q)) (n1 : ∀ p a, 0 ≤ p → 0 ≤ a → a < L → mt_bl p a frm i → nx' p a = nx p a) (g1 : 1 ≤ nx' frm i) (g2 : nx' frm i < P') (g3 : mt_eq h (S' (nx' frm i)) (mt_both h (mq_w (S frm)) (lt i))) (t3 : P' = P ∨ (P' = P + 1 ∧ nx' frm i = P)) (t4 : ∀ p, 0 ≤ p → p < P' → mt_M h (S' p)) (t5 : ∀ p q, 1 ≤ p → p < q → q < P' → ¬ mt_eq h (S' p) (S' q)) : mt_bf h L lt S' nx' P' frm (i + 1) := by
  obtain ⟨y1, y2, y3, y4, y5, y6⟩ := b
  have tr : ∀ {f g k : Int → Int}, mt_eq h f g → mt_eq h g k → mt_eq h f k := fun e e2 x x0 x1 => (e x x0 x1).trans (e2 x x0 x1)
  have bl : ∀ p a, mt_bl p a frm (i + 1) → (p = frm ∧ a = i) ∨ mt_bl p a frm i := fun p a z => by unfold mt_bl at *; omega
  have bu : ∀ p a, mt_bl p a frm i → mt_bl p a frm (i + 1) := fun p a z => by unfold mt_bl at *; omega
  refine ⟨by omega, tr (t1 0 (by omega) (by omega)) y2, t4, t5, fun p a p0 a0 a1 z => ?_, fun q q1 q2 => ?_⟩
  · rcases bl p a z with ⟨zp, za⟩ | z
    · subst zp; subst za
      refine ⟨g1, g2, by rw [tw p p0 fP]; exact g3, fun q q1 q2 => ?_⟩
      obtain ⟨p', a', p0', p1', a0', a1', x', e'⟩ := y6 q q1 (by omega)
      exact ⟨p', a', p0', a0', a1', x', by rw [n1 p' a' p0' a0' a1' x']; exact e'⟩
    · have pP : p < P := by unfold mt_bl at z; omega
      obtain ⟨w1, w2, w3, w4⟩ := y5 p a p0 a0 a1 z
      rw [n1 p a p0 a0 a1 z, tw p p0 pP]
      refine ⟨w1, by omega, tr (t1 _ (by omega) w2) w3, fun q q1 q2 => ?_⟩
      obtain ⟨p', a', p0', a0', a1', x', e'⟩ := w4 q q1 q2
      exact ⟨p', a', p0', a0', a1', x', by rw [n1 p' a' p0' a0' a1' (by unfold mt_bl at *; omega)]; exact e'⟩
  · rcases Int.lt_or_le q P with z | z
    · obtain ⟨p', a', p0', p1', a0', a1', x', e'⟩ := y6 q q1 z
      exact ⟨p', a', p0', p1', a0', a1', bu _ _ x', by rw [n1 p' a' p0' a0' a1' x']; exact e'⟩
    · exact ⟨frm, i, f0, by omega, i0, iL, by unfold mt_bl; omega, by omega⟩
theorem mt_bf_n {h L P frm : Int} {lt S nx : Int → Int → Int} (b : mt_bf h L lt S nx P frm L) : mt_bf h L lt S nx P (frm + 1) 0 := by
  obtain ⟨y1, y2, y3, y4, y5, y6⟩ := b
  refine ⟨y1, y2, y3, y4, fun p a p0 a0 a1 z => y5 p a p0 a0 a1 (by unfold mt_bl at *; omega), fun q q1 q2 => ?_⟩
  obtain ⟨p, a, p0, p1, a0, a1, x, e⟩ := y6 q q1 q2
  exact ⟨p, a, p0, p1, a0, a1, by unfold mt_bl at *; omega, e⟩
/-- the model's states as places: the straight lane is place 0 -/
def ms_S (h : Int) (F : Nat → Int → Int) (p : Int) : Int → Int := if p = 0 then mt_str h else F (p - 1).toNat
def ms_n (σ : ml_St) (p a : Int) : Int := if p = 0 then σ 242 a + 1 else σ 240 (6 * (p - 1) + a) + 1
def ms_B (h nl : Int) (lt : Int → Int → Int) (F : Nat → Int → Int) (c : Nat) (frm i : Int) (σ : ml_St) : Prop := mt_bf h nl lt (ms_S h F) (ms_n σ) (c + 1) frm i
def ms_O (h nl q : Int) (lt : Int → Int → Int) (F : Nat → Int → Int) (σ : ml_St) : Prop := ∀ (s : Nat) (l : Int), 0 ≤ l → l < nl → 6 * s + l < q → σ 241 (6 * s + l) = min (mt_both h (mq_w (F s)) (lt l) 20) 4
theorem ms_S_0 {h : Int} {F : Nat → Int → Int} : ms_S h F 0 = mt_str h := if_pos rfl
theorem ms_S_s {h : Int} {F : Nat → Int → Int} (k : Nat) : ms_S h F ((k : Int) + 1) = F k := by unfold ms_S; rw [if_neg (by omega), show ((k : Int) + 1 - 1).toNat = k by omega]
theorem ms_S_p {h : Int} {F : Nat → Int → Int} {p : Int} (p1 : 1 ≤ p) : ms_S h F p = F (p - 1).toNat := if_neg (by omega)
/-- the matchings of states, as those of places -/
theorem ms_S_t {h : Int} {cl : Int → Int} {F : Nat → Int → Int} {c : Nat} {σ : ml_St} (h5 : h ≤ 5) (s : mq_s h cl F c σ) : (∀ p, 0 ≤ p → p < (c : Int) + 1 → mt_M h (ms_S h F p)) ∧ ∀ p q, 1 ≤ p → p < q → q < (c : Int) + 1 → ¬ mt_eq h (ms_S h F p) (ms_S h F q) := by
  refine ⟨fun p p0 p1 => ?_, fun p q p0 pq q1 => ?_⟩
  · by_cases z : p = 0
    · rw [z, ms_S_0]; exact mt_str_M h5
    · rw [ms_S_p (by omega)]; exact (s.2.1 _ (by omega)).1
  · rw [ms_S_p p0, ms_S_p (by omega)]
    exact s.2.2 _ _ (by omega) (by omega)
theorem ms_B_s {h nl frm i : Int} {lt : Int → Int → Int} {cl f : Int → Int} {F F' : Nat → Int → Int} {c c' n : Nat} {σ σ' τ : ml_St} (h5 : h ≤ 5) (b : ms_B h nl lt F c frm i σ) (s' : mq_s h cl F' c' τ) (f0 : 0 ≤ frm) (fP : frm < (c : Int) + 1) (i0 : 0 ≤ i) (iL : i < nl) (ff : ∀ i, i < c → F' i = F i) (nn : n < c') (en : mt_eq h (F' n) f) (ef : mt_eq h f (mt_both h (mq_w (ms_S h F frm)) (lt i))) (nc : (n < c ∧ c' = c) ∨ (n = c ∧ c' = c + 1)) (n1 : ∀ p a, 0 ≤ p → 0 ≤ a → a < nl → mt_bl p a frm i → ms_n σ' p a = ms_n σ p a) (n2 : ms_n σ' frm i = n + 1) : ms_B h nl lt F' c' frm (i + 1) σ' := by
  have tr : ∀ {f g k : Int → Int}, mt_eq h f g → mt_eq h g k → mt_eq h f k := fun e e2 x x0 x1 => (e x x0 x1).trans (e2 x x0 x1)
  obtain ⟨t4, t5⟩ := ms_S_t h5 s'
  have es : ∀ q, 0 ≤ q → q < (c : Int) + 1 → ms_S h F' q = ms_S h F q := fun q q0 q1 => by
    by_cases z : q = 0
    · rw [z, ms_S_0, ms_S_0]
    · rw [ms_S_p (by omega), ms_S_p (by omega)]; exact ff _ (by omega)
  refine mt_bf_s (P' := (c' : Int) + 1) b f0 fP i0 iL (fun q q0 q1 => by rw [es q q0 q1]; exact fun _ _ _ => rfl) (fun q q0 q1 => by rw [es q q0 q1]) n1 (by rw [n2]; omega) (by rw [n2]; omega) ?_ (by rw [n2]; omega) t4 t5
  rw [n2, ms_S_s]
  exact tr en ef
def mq_n (nl c q : Int) (σ : ml_St) : Prop := ∀ s l, 0 ≤ s → 0 ≤ l → l < nl → 6 * s + l < q → 0 ≤ σ 240 (6 * s + l) ∧ σ 240 (6 * s + l) < c ∧ 0 ≤ σ 241 (6 * s + l) ∧ σ 241 (6 * s + l) ≤ 4
def mq_1 (nl c : Int) (σ : ml_St) : Prop := ∀ l, 0 ≤ l → l < nl → 0 ≤ σ 242 l ∧ σ 242 l < c
theorem s_few {Q : Int → ml_St → Prop} {x : Int} {σ : ml_St} (x0 : 0 ≤ x) (k : Q (min x 4) σ) : f_X12_few σ x Q := by
  unfold f_X12_few f_X12_few_u0 f_X12_few_u14
  refine ⟨fun c => ?_, fun c => ?_⟩
  · rw [mb_l2i2 (by omega) (by omega)]
    rw [show min x 4 = x by omega] at k; exact k
  · rw [show min x 4 = 4 by omega] at k; exact k
/-- what the searches stand on -/
def mq_J (h told ts cap : Int) (tb cl pr sz : Int → Int) (T : Int → Int → Int) (τ0 : ml_St) (nl : Int) (F : Nat → Int → Int) (c : Nat) (σ : ml_St) : Prop := mq_L h told ts cap tb cl pr sz T τ0 nl σ ∧ mq_s h cl F c σ ∧ mq_1 nl c σ ∧ mq_n nl c (6 * c) σ
theorem s_joinsAll {Q : ml_St → Prop} {h told ts cap nl : Int} {tb cl pr sz : Int → Int} {T : Int → Int → Int} {τ0 σ0 : ml_St} (i : mq_L h told ts cap tb cl pr sz T τ0 nl σ0) (k : ∀ σ F c, mq_J h told ts cap tb cl pr sz T τ0 nl F c σ → ms_B h nl (fun a => mt_mk h T sz (σ0 237 a)) F c (c + 1) 0 σ → ms_O h nl (6 * c) (fun a => mt_mk h T sz (σ0 237 a)) F σ → σ 237 = σ0 237 → Q σ) : f_X12_joinsAll σ0 Q := by
  have h2 := i.1.1.2.2.1
  have h5 := i.1.1.2.2.2.1
  have nl0 := i.2.2.2.1
  have nl6 := i.2.2.2.2.1
  have hc := i.1.2.2.1.2.2.2
  -- how stateOf is used
  have ST : ∀ (Q' : Int → ml_St → Prop) (m : Int) (f : Int → Int) (F : Nat → Int → Int) (c : Nat) (σ : ml_St), mq_L h told ts cap tb cl pr sz T τ0 nl σ → mq_s h cl F c σ → 0 ≤ m → m < 64 → mt_M h f → (∀ e, 0 ≤ e → e < 2 * h → σ 227 (10 * m + e) = f e) → (∀ σ' (n c' : Nat) (F' : Nat → Int → Int), mq_L h told ts cap tb cl pr sz T τ0 nl σ' → mq_s h cl F' c' σ' → c ≤ c' → (∀ i, i < c → F' i = F i) → n < c' → (∀ j, j ≠ 215 → j ≠ 234 → j ≠ 238 → j ≠ 239 → j ≠ 243 → σ' j = σ j) → I32 n → mt_eq h (F' n) f → ((n < c ∧ c' = c) ∨ (n = c ∧ c' = c + 1)) → Q' n σ') → f_X12_stateOf σ m Q' := fun Q' m f F c σ L s m0 m1 hf ra k' => by
    refine s_stateOf h2 h5 ⟨m0, m1⟩ L.1.1.1 hf ra hc L.1.2.2.1.2.2.1 s (fun σ' n c' F' g gb s' cc ff nn eq iI nc => k' σ' n c' F' (mq_L_k (mt_kq_o (fun j hj => g j (by omega) (by omega) (by omega) (by omega) (by omega)) (fun b b1 b2 => gb b (by omega))) (gb 38 (by omega)) (g 237 (by omega) (by omega) (by omega) (by omega) (by omega)) L) s' cc ff nn g iI eq nc)
  -- the second loop
  have S2 : ∀ (N : Nat) (s : Int) (F : Nat → Int → Int) (c : Nat) (σ : ml_St), 0 ≤ s → s ≤ c → 946 - s < N → mq_L h told ts cap tb cl pr sz T τ0 nl σ → mq_s h cl F c σ → mq_1 nl c σ → mq_n nl c (6 * s) σ → ms_B h nl (fun a => mt_mk h T sz (σ0 237 a)) F c (s + 1) 0 σ → ms_O h nl (6 * s) (fun a => mt_mk h T sz (σ0 237 a)) F σ → σ 237 = σ0 237 → f_X12_joinsAll_u39 Q (f_X12_joinsAll_u166 Q) N σ s := by
    intro N
    induction N with
    | zero => intro s F c σ s0 s1 hN L S; have := mq_s_le h2 h5 S; omega
    | succ N ih =>
      intro s F c σ s0 s1 hN L S f1 fn hB hO hl
      unfold f_X12_joinsAll_u39
      rw [S.1]
      refine fun _ => ⟨fun q => ?_, fun q => ⟨7, ?_⟩⟩
      · unfold f_X12_joinsAll_u166
        have : s = c := by omega
        rw [this] at fn hB hO
        exact k σ F c ⟨L, S, f1, fn⟩ hB hO hl
      -- the letters of a state
      have LT : ∀ (M : Nat) (l : Int) (F : Nat → Int → Int) (c : Nat) (σ : ml_St), 0 ≤ l → l ≤ nl → nl - l < M → s < c → mq_L h told ts cap tb cl pr sz T τ0 nl σ → mq_s h cl F c σ → mq_1 nl c σ → mq_n nl c (6 * s + l) σ → ms_B h nl (fun a => mt_mk h T sz (σ0 237 a)) F c (s + 1) l σ → ms_O h nl (6 * s + l) (fun a => mt_mk h T sz (σ0 237 a)) F σ → σ 237 = σ0 237 → f_X12_joinsAll_u49 Q (f_X12_joinsAll_u160 Q (f_X12_joinsAll_u39 Q (f_X12_joinsAll_u166 Q) N)) M σ s l := by
        intro M
        induction M with
        | zero => intro l F c σ l0 l1 hM; omega
        | succ M ihl =>
          intro l F c σ l0 l1 hM sc L S f1 fn hB hO hl
          have c945 := mq_s_le h2 h5 S
          unfold f_X12_joinsAll_u49
          rw [L.2.2.1]
          refine fun _ => ⟨fun q => ?_, fun q => s_straight h2 h5 ⟨by omega, by omega⟩ L.1.1.1 (fun σ3 p3 w3 => ⟨11, ?_⟩)⟩
          · unfold f_X12_joinsAll_u160
            refine ⟨mt_I (by omega) (by omega), fun y e => ?_⟩
            subst e
            have : l = nl := by omega
            subst this
            exact ih (s + 1) F c σ (by omega) (by omega) (by omega) L S f1 (fun s' l' a b d e => fn s' l' a b d (by omega)) (mt_bf_n hB) (fun s' l' b d e => hO s' l' b d (by omega)) hl
          have lt : l < nl := by omega
          have sN : ((s.toNat : Nat) : Int) = s := by omega
          obtain ⟨y1, y2, y3, y4⟩ := S.2.1 s.toNat (by omega)
          rw [sN] at y2 y3 y4
          -- the pairs are copied
          have CP : ∀ (N' : Nat) (e : Int) (τ : ml_St), 0 ≤ e → e ≤ 2 * h → 2 * h - e < N' → mt_mf 61 σ τ → (∀ e', 0 ≤ e' → e' < e → τ 227 (610 + e') = F s.toNat e') → (∀ e', 0 ≤ e' → e' < 2 * h → τ 228 (610 + e') = 0) → τ 229 61 = 0 → τ 230 61 = 0 → τ 231 61 = 0 → f_X12_joinsAll_u65 Q (f_X12_joinsAll_u102 Q (f_X12_joinsAll_u49 Q (f_X12_joinsAll_u160 Q (f_X12_joinsAll_u39 Q (f_X12_joinsAll_u166 Q) N)) M)) N' τ s l e := by
            intro N'
            induction N' with
            | zero => intro e τ e0 e1 hN'; omega
            | succ N' ihe =>
              intro e τ e0 e1 hN' g hi z1 z2 z3 z4
              have g239 := g.1 239 (by omega) (by omega) (by omega) (by omega) (by omega) (by omega) (by omega)
              unfold f_X12_joinsAll_u65
              rw [g.2.1 2 (by omega), L.1.1.1]
              refine fun _ => ⟨mt_I (by omega) (by omega), fun q => ?_, fun q => ⟨mt_I (by omega) (by omega), mt_I (by omega) (by omega), mt_I (by omega) (by omega), by omega, by omega, fun _ => ⟨by omega, by omega, fun σ8 s8 => ⟨mt_I (by omega) (by omega), fun y ey => ?_⟩⟩⟩⟩
              · -- joined with the letter
                have ee : e = 2 * h := by omega
                subst ee
                have L' := mq_L_mf (by omega) g L
                have e237 : τ 237 = σ 237 := g.1 237 (by omega) (by omega) (by omega) (by omega) (by omega) (by omega) (by omega)
                have md := L.2.2.2.2.2 l l0 lt
                have cv := (IM_cv L.1 md.1 md.2.1).1
                have b20 := mq_20 cv md.2.2
                obtain ⟨g1, g2, g3, g4, g5⟩ := IM_w L'.1 md
                have wM : mt_M h (mq_w (F s.toNat)) := mt_eq_M (mq_w_e h5) y1
                have w61 : mt_mv h τ 61 (mq_w (F s.toNat)) := by
                  refine ⟨fun e' e0' e1' => ⟨?_, ?_⟩, ?_, ?_, ?_⟩
                  · rw [show (10 : Int) * 61 + e' = 610 + e' by omega, hi e' e0' e1', mq_w_e h5 e' e0' e1']
                  · rw [show (10 : Int) * 61 + e' = 610 + e' by omega, z1 e' e0' e1']; unfold mq_w; rw [if_neg (by omega)]
                  · rw [z2]; unfold mq_w; rw [if_neg (by omega)]
                  · rw [z3]; unfold mq_w; rw [if_neg (by omega)]
                  · rw [z4]; unfold mq_w; rw [if_neg (by omega)]
                unfold f_X12_joinsAll_u102
                rw [e237]
                refine ⟨by omega, by omega, fun _ => s_lays h2 h5 ⟨by omega, by omega⟩ ⟨g4, by omega⟩ ⟨by omega, by omega⟩ L'.1.1.1 wM g2 w61 g1 (by omega) (by omega) (fun σ2 p2 w2 => ⟨mt_I (by omega) (by omega), mt_I (by omega) (by omega), ?_⟩)⟩
                have L2 := mq_L_mf (by omega) p2 L'
                have S2' : mq_s h cl F c σ2 := mq_s_k (by rw [p2.2.1 39 (by omega), g.2.1 39 (by omega)]) (by rw [p2.1 238 (by omega) (by omega) (by omega) (by omega) (by omega) (by omega) (by omega), g.1 238 (by omega) (by omega) (by omega) (by omega) (by omega) (by omega) (by omega)]) (by rw [p2.1 239 (by omega) (by omega) (by omega) (by omega) (by omega) (by omega) (by omega), g239]) (by rw [p2.1 243 (by omega) (by omega) (by omega) (by omega) (by omega) (by omega) (by omega), g.1 243 (by omega) (by omega) (by omega) (by omega) (by omega) (by omega) (by omega)]) S
                have uM := mt_both_M h5 wM g2
                have u20 : 0 ≤ mt_both h (mq_w (F s.toNat)) (mt_mk h T sz (σ 237 l)) 20 := by
                  have w20 : mq_w (F s.toNat) 20 = 0 := by unfold mq_w; rw [if_neg (by omega)]
                  have := mt_rs_lb (h := h) (a := mq_w (F s.toNat)) (b := mt_mk h T sz (σ 237 l)) (by omega) (by omega) h.toNat (by omega)
                  rw [mt_both_20]; omega
                generalize hu : mt_both h (mq_w (F s.toNat)) (mt_mk h T sz (σ 237 l)) = u at *
                refine ST _ 62 u F c σ2 L2 S2' (by omega) (by omega) uM (fun e e0 e1 => (w2.1 e e0 e1).1) (fun σ5 n c' F' L5 S5 cc ff nn g5' iI enq nc _ => ⟨by omega, by omega, fun σ6 s6 => ⟨mt_I (by omega) (by omega), mt_I (by omega) (by omega), by omega, by omega, fun _ => ?_⟩⟩)
                have c'945 := mq_s_le h2 h5 S5
                have e229 : σ6 229 62 = u 20 := by rw [s6, ml_up_k (by omega), g5' 229 (by omega) (by omega) (by omega) (by omega) (by omega), w2.2.1]
                rw [e229]
                refine s_few u20 (fun _ => ⟨by omega, by omega, fun σ11 s11 => ⟨mt_I (by omega) (by omega), fun y ey => ?_⟩⟩)
                subst ey
                have j11 : ∀ j, j ≠ 240 → j ≠ 241 → σ11 j = σ5 j := fun j h1 h2 => by rw [s11, ml_up_k h2, s6, ml_up_k h1]
                have oth : ∀ j, j = 240 ∨ j = 241 ∨ j = 242 → σ5 j = σ j := fun j hj => by rw [g5' j (by omega) (by omega) (by omega) (by omega) (by omega), p2.1 j (by omega) (by omega) (by omega) (by omega) (by omega) (by omega) (by omega), g.1 j (by omega) (by omega) (by omega) (by omega) (by omega) (by omega) (by omega)]
                refine ihl (l + 1) F' c' σ11 (by omega) (by omega) (by omega) (by omega) (mq_L_k (mt_kq_o (fun j hj => j11 j (by omega) (by omega)) (fun b _ _ => by rw [j11 215 (by omega) (by omega)])) (by rw [j11 215 (by omega) (by omega)]) (j11 237 (by omega) (by omega)) L5) (mq_s_k (by rw [j11 215 (by omega) (by omega)]) (j11 238 (by omega) (by omega)) (j11 239 (by omega) (by omega)) (j11 243 (by omega) (by omega)) S5) (fun l' a b => ?_) (fun s' l' a b d e => ?_) ?_ ?_ ?_
                · rw [j11 242 (by omega) (by omega), oth 242 (by omega)]
                  have := f1 l' a b; omega
                · have e240 : σ11 240 = σ6 240 := by rw [s11, ml_up_k (by omega)]
                  rw [e240]
                  by_cases z : 6 * s' + l' = 6 * s + l
                  · rw [z, s6, ml_up_same, s11, ml_up_same]; omega
                  · have o := fn s' l' a b d (by omega)
                    rw [s11, ml_up_i z, s6, ml_up_i z, ml_up_k (by omega), oth 240 (by omega), oth 241 (by omega)]
                    omega
                · -- the places
                  have v240 : ∀ q, q ≠ 6 * s + l → σ11 240 q = σ 240 q := fun q hq => by rw [s11, ml_up_k (by omega), s6, ml_up_i hq, oth 240 (by omega)]
                  have w240 : σ11 240 (6 * s + l) = n := by rw [s11, ml_up_k (by omega), s6, ml_up_same]
                  have v242 : σ11 242 = σ 242 := by rw [j11 242 (by omega) (by omega), oth 242 (by omega)]
                  refine ms_B_s h5 hB S5 (by omega) (by omega) l0 lt ff nn enq ?_ nc (fun p a p0 a0 a1 z => ?_) ?_
                  · rw [ms_S_p (by omega), show (s + 1 - 1).toNat = s.toNat by omega, ← hu, hl]
                    exact fun _ _ _ => rfl
                  · unfold ms_n
                    by_cases z0 : p = 0
                    · rw [if_pos z0, if_pos z0, v242]
                    · rw [if_neg z0, if_neg z0, v240 _ (by unfold mt_bl at z; omega)]
                  · unfold ms_n
                    rw [if_neg (by omega), show 6 * (s + 1 - 1) + l = 6 * s + l by omega, w240]
                · intro s' l' b d e
                  by_cases z : 6 * (s' : Int) + l' = 6 * s + l
                  · have zl : l' = l := by omega
                    have zs : s' = s.toNat := by omega
                    rw [z, s11, ml_up_same, zl, zs, ff s.toNat (by omega), ← hu, hl]
                  · have o := hO s' l' b d (by omega)
                    rw [s11, ml_up_i z, s6, ml_up_k (by omega), oth 241 (by omega), ff s' (by omega)]
                    exact o
                · rw [j11 237 (by omega) (by omega), g5' 237 (by omega) (by omega) (by omega) (by omega) (by omega), p2.1 237 (by omega) (by omega) (by omega) (by omega) (by omega) (by omega) (by omega), e237, hl]
              · have a239 : τ 239 (10 * s + e) = F s.toNat e := by rw [g239]; exact y3 e e0 (by omega)
                rw [a239] at s8
                subst ey
                refine ihe (e + 1) σ8 (by omega) (by omega) (by omega) ⟨fun j h1 h2 h3 h4 h5 h6 h7 => by rw [s8, ml_up_k h2]; exact g.1 j h1 h2 h3 h4 h5 h6 h7, fun j hj => by rw [s8, ml_up_k (by omega)]; exact g.2.1 j hj, fun j hj => ?_, fun j hj => ?_⟩ (fun e' e0' e1' => ?_) (fun e' e0' e1' => by rw [s8, ml_up_k (by omega)]; exact z1 e' e0' e1') (by rw [s8, ml_up_k (by omega)]; exact z2) (by rw [s8, ml_up_k (by omega)]; exact z3) (by rw [s8, ml_up_k (by omega)]; exact z4)
                · rw [s8, ml_up_i (by omega), ml_up_k (by omega)]; exact g.2.2.1 j hj
                · rw [s8, ml_up_k (by omega), ml_up_k (by omega), ml_up_k (by omega)]; exact g.2.2.2 j hj
                · rw [s8]
                  by_cases z : e' = e
                  · rw [z, ml_up_same]
                  · rw [ml_up_i (by omega)]; exact hi e' e0' (by omega)
          have zz : ∀ i, 20 ≤ i → mt_str h i = 0 := fun i hi => by unfold mt_str; rw [if_neg (by omega)]
          exact CP 11 0 σ3 (by omega) (by omega) (by omega) p3 (fun e' a b => absurd b (by omega)) (fun e' a b => by rw [show (610 : Int) + e' = 10 * 61 + e' by omega, (w3.1 e' a b).2, (mt_str_e h5 a b).2]) (by rw [w3.2.1, zz 20 (by omega)]) (by rw [w3.2.2.1, zz 21 (by omega)]) (by rw [w3.2.2.2, zz 22 (by omega)])
      exact LT 7 0 F c σ (by omega) nl0 (by omega) (by omega) L S f1 (fun s' l' a b d e => fn s' l' a b d (by omega)) hB (fun s' l' b d e => hO s' l' b d (by omega)) hl
  -- the first loop
  have S1 : ∀ (N : Nat) (l : Int) (F : Nat → Int → Int) (c : Nat) (σ : ml_St), 0 ≤ l → l ≤ nl → nl - l < N → mq_L h told ts cap tb cl pr sz T τ0 nl σ → mq_s h cl F c σ → mq_1 l c σ → ms_B h nl (fun a => mt_mk h T sz (σ0 237 a)) F c 0 l σ → σ 237 = σ0 237 → f_X12_joinsAll_u7 Q (f_X12_joinsAll_u37 Q) N σ l := by
    intro N
    induction N with
    | zero => intro l F c σ l0 l1 hN; omega
    | succ N ih =>
      intro l F c σ l0 l1 hN L S f1 hB hl
      unfold f_X12_joinsAll_u7
      rw [L.2.2.1]
      refine fun _ => ⟨fun q => ?_, fun q => ⟨l0, by omega, fun _ => ?_⟩⟩
      · unfold f_X12_joinsAll_u37
        have : l = nl := by omega
        subst this
        exact ⟨947, S2 947 0 F c σ (by omega) (by omega) (by omega) L S f1 (fun s' l' a b d e => absurd e (by omega)) (mt_bf_n hB) (fun s' l' b d e => absurd e (by omega)) hl⟩
      have md := L.2.2.2.2.2 l l0 (by omega)
      obtain ⟨g1, g2, g3, g4, g5⟩ := IM_w L.1 md
      refine ST _ (σ 237 l) _ F c σ L S g4 (by omega) g2 (fun e e0 e1 => (g1.1 e e0 e1).1) (fun σ4 n c' F' L4 S4 cc ff nn g4' iI enq nc _ => ⟨l0, by omega, fun σ5 s5 => ⟨mt_I (by omega) (by omega), fun y ey => ?_⟩⟩)
      subst ey
      have j5 : ∀ j, j ≠ 242 → σ5 j = σ4 j := fun j h1 => by rw [s5, ml_up_k h1]
      refine ih (l + 1) F' c' σ5 (by omega) (by omega) (by omega) (mq_L_k (mt_kq_o (fun j hj => j5 j (by omega)) (fun b _ _ => by rw [j5 215 (by omega)])) (by rw [j5 215 (by omega)]) (j5 237 (by omega)) L4) (mq_s_k (by rw [j5 215 (by omega)]) (j5 238 (by omega)) (j5 239 (by omega)) (j5 243 (by omega)) S4) (fun l' a b => ?_) ?_ ?_
      · rw [s5]
        by_cases z : l' = l
        · rw [z, ml_up_same]; omega
        · rw [ml_up_i z, g4' 242 (by omega) (by omega) (by omega) (by omega) (by omega)]
          have := f1 l' a (by omega); omega
      · refine ms_B_s (f := mt_mk h T sz (σ 237 l)) h5 hB S4 (by omega) (by omega) l0 (by omega) ff nn enq ?_ nc (fun p a p0 a0 a1 z => ?_) ?_
        · rw [ms_S_0, hl] at *
          have i1 := mt_weq_e (mt_id h2 h5 g2 g3)
          have i2 := (mt_both_p (b := mt_mk h T sz (σ0 237 l)) (by omega) h5 (mt_str_M h5) g2 (fun e e0 e1 => (mq_w_e h5 e e0 e1).symm : mt_eq h (mt_str h) (mq_w (mt_str h))) (by unfold mt_str mq_w; rw [if_neg (by omega), if_neg (by omega)])).1
          exact fun e e0 e1 => by rw [← i2 e e0 e1]; exact (i1 e e0 e1).symm
        · have p0' : p = 0 := by unfold mt_bl at z; omega
          unfold ms_n
          rw [if_pos p0', if_pos p0', s5, ml_up_i (by unfold mt_bl at z; omega), g4' 242 (by omega) (by omega) (by omega) (by omega) (by omega)]
        · unfold ms_n
          rw [if_pos rfl, s5, ml_up_same]
      · rw [j5 237 (by omega), g4' 237 (by omega) (by omega) (by omega) (by omega) (by omega), hl]
  unfold f_X12_joinsAll f_X12_joinsAll_u0
  intro σ1 s1
  refine ⟨7, S1 7 0 (fun _ _ => 0) 0 σ1 (by omega) nl0 (by omega) (mq_L_k (mt_kq_o (fun j hj => by rw [s1, ml_up_k (by omega)]) (fun b b1 b2 => by rw [s1, ml_up_i (by omega)])) (by rw [s1, ml_up_i (by omega)]) (by rw [s1, ml_up_k (by omega)]) i) ⟨by rw [s1, ml_up_same]; rfl, fun i hi => absurd hi (by omega), fun i j _ hj => absurd hj (by omega)⟩ (fun l a b => absurd b (by omega)) ⟨by omega, by rw [ms_S_0]; exact fun _ _ _ => rfl, fun p p0 p1 => by rw [show p = 0 by omega, ms_S_0]; exact mt_str_M h5, fun p q p0 pq q1 => by omega, fun p a p0 a0 a1 z => by unfold mt_bl at z; omega, fun q q1 q2 => by omega⟩ (by rw [s1, ml_up_k (by omega)])⟩
/-- the model's places: what they are -/
def ms_M (h told : Int) (mk : Int → Int → Int) (set : Int) (L : Int) (l : Int → Int) (F : Nat → Int → Int) (c : Nat) (nx : Int → Int → Int) : Prop := ic_L set told L l ∧ mt_bf h L (fun a => mk (l a)) (ms_S h F) nx (c + 1) (c + 1) 0
theorem m_made {Q : Int → ml_St → Prop} {h told ts cap set : Int} {tb cl pr sz : Int → Int} {T : Int → Int → Int} {τ : ml_St} (i : IM h told ts cap tb cl pr sz T τ) (k0 : ¬ mt_ls told (mt_mk h T sz) set → ∀ σ, IM h told ts cap tb cl pr sz T σ → (∀ j, j < 215 → σ j = τ j) → Q (-1) σ) (k : mt_ls told (mt_mk h T sz) set → ∀ σ L l F (c : Nat) nx, IM h told ts cap tb cl pr sz T σ → (∀ j, j < 215 → σ j = τ j) → ms_M h told (mt_mk h T sz) set L l F c nx → Q c σ) : f_X12_made τ set Q := by
  unfold f_X12_made f_X12_made_u0
  refine s_isLetters i (fun no σ i' f _ => ⟨fun z => absurd rfl z, fun _ => k0 no σ i' f⟩) (fun ls σ nl L hl _ => ⟨fun _ => s_joinsAll L (fun σ3 F c J hB hO h7 => ?_), fun z => absurd z (by omega)⟩)
  rw [J.2.1.1]
  exact fun _ => k ls σ3 nl (σ 237) F c _ J.1.1 J.1.2.1 ⟨hl, hB⟩
/-! the model: many -/
theorem mq_J_k {h told ts cap nl : Int} {tb cl pr sz : Int → Int} {T : Int → Int → Int} {τ0 σ σ' : ml_St} {F : Nat → Int → Int} {c : Nat} (f : ∀ j, j ≠ 215 → j ≤ 243 → σ' j = σ j) (b : ∀ b, b ≤ 39 → σ' 215 b = σ 215 b) (i : mq_J h told ts cap tb cl pr sz T τ0 nl F c σ) : mq_J h told ts cap tb cl pr sz T τ0 nl F c σ' := by
  obtain ⟨i1, i2, i3, i4⟩ := i
  refine ⟨mq_L_k (mt_kq_o (fun j hj => f j (by omega) (by omega)) (fun c b1 b2 => b c (by omega))) (b 38 (by omega)) (f 237 (by omega) (by omega)) i1, mq_s_k (b 39 (by omega)) (f 238 (by omega) (by omega)) (f 239 (by omega) (by omega)) (f 243 (by omega) (by omega)) i2, ?_, ?_⟩
  · unfold mq_1; rw [f 242 (by omega) (by omega)]; exact i3
  · unfold mq_n; rw [f 240 (by omega) (by omega), f 241 (by omega) (by omega)]; exact i4
/-- bounds that searches need -/
theorem mq_J_b {h told ts cap nl : Int} {tb cl pr sz : Int → Int} {T : Int → Int → Int} {τ0 σ : ml_St} {F : Nat → Int → Int} {c : Nat} (i : mq_J h told ts cap tb cl pr sz T τ0 nl F c σ) : σ 215 39 = c ∧ c ≤ 945 ∧ σ 215 38 = nl ∧ 0 ≤ nl ∧ nl ≤ 6 ∧ (∀ s : Int, 0 ≤ s → s < c → 0 ≤ σ 243 s ∧ σ 243 s ≤ 10) ∧ (∀ l, 0 ≤ l → l < nl → 0 ≤ σ 237 l ∧ σ 237 l < 16 ∧ 0 ≤ σ 229 (σ 237 l) ∧ 0 ≤ σ 242 l ∧ σ 242 l < c) := by
  have h2 := i.1.1.1.2.2.1
  have h5 := i.1.1.1.2.2.2.1
  have hc := i.1.1.2.2.1.2.2.2
  refine ⟨i.2.1.1, mq_s_le h2 h5 i.2.1, i.1.2.2.1, i.1.2.2.2.1, i.1.2.2.2.2.1, fun s s0 s1 => ?_, fun l l0 l1 => ?_⟩
  · obtain ⟨y1, y2, y3, y4⟩ := i.2.1.2.1 s.toNat (by omega)
    rw [show ((s.toNat : Nat) : Int) = s by omega] at y4
    rw [y4]; exact mt_cl_r (by omega) h5 y1 hc
  · have md := i.1.2.2.2.2.2 l l0 l1
    obtain ⟨g1, g2, g3, g4, g5⟩ := IM_w i.1.1 md
    have b := mq_20 (IM_cv i.1.1 md.1 md.2.1).1 md.2.2
    have f := i.2.2.1 l l0 l1
    rw [g1.2.1]
    exact ⟨g4, g5, b.1, f.1, f.2⟩
/-- of one place and one number of loops -/
def ms_Wx (nx e : Int → Int → Int) (v q l p m : Int) : Nat → Int
  | 0 => 0
  | a + 1 => ms_Wx nx e v q l p m a + (if nx p a = q ∧ m + e p a = l then v else 0)
theorem ms_Wx_s (nx e : Int → Int → Int) (v q l p m : Int) (a : Nat) : ms_Wx nx e v q l p m (a + 1) = ms_Wx nx e v q l p m a + (if nx p a = q ∧ m + e p a = l then v else 0) := rfl
theorem ms_Wa_s (nx mo V : Int → Int → Int) (q l p : Int) (a : Nat) : ms_Wa nx mo V q l p (a + 1) = ms_Wa nx mo V q l p a + (if nx p a = q ∧ mo p a ≤ l then V p (l - mo p a) else 0) := rfl
theorem ms_Wx_0 {nx e : Int → Int → Int} {q l p m : Int} : ∀ a : Nat, ms_Wx nx e 0 q l p m a = 0 := by
  intro a
  induction a with
  | zero => rfl
  | succ a ih => unfold ms_Wx; rw [ih]; split <;> rfl
theorem ms_Wx_r {nx e : Int → Int → Int} {v q l p m : Int} (v0 : 0 ≤ v) : ∀ a : Nat, 0 ≤ ms_Wx nx e v q l p m a := by
  intro a
  induction a with
  | zero => exact Int.le_refl 0
  | succ a ih => unfold ms_Wx; split <;> omega
theorem ms_Wx_4 {nx e V : Int → Int → Int} {q l p : Int} (l0 : 0 ≤ l) (l4 : l < 4) : ∀ a : Nat, (∀ i : Int, 0 ≤ i → i < a → 0 ≤ e p i) → ms_Wx nx e (V p 0) q l p 0 a + ms_Wx nx e (V p 1) q l p 1 a + ms_Wx nx e (V p 2) q l p 2 a + ms_Wx nx e (V p 3) q l p 3 a = ms_Wa nx e V q l p a := by
  intro a
  induction a with
  | zero => intro _; rfl
  | succ a ih =>
    intro h
    have i := ih (fun i i0 i1 => h i i0 (by omega))
    have e0 := h a (by omega) (by omega)
    unfold ms_Wx ms_Wa
    by_cases z : nx p a = q
    · by_cases y : e p a ≤ l
      · rw [if_pos (c := nx p a = q ∧ e p a ≤ l) ⟨z, y⟩]
        have c : l - e p a = 0 ∨ l - e p a = 1 ∨ l - e p a = 2 ∨ l - e p a = 3 := by omega
        rcases c with c | c | c | c
        · rw [c, if_pos ⟨z, by omega⟩, if_neg (fun w => by omega), if_neg (fun w => by omega), if_neg (fun w => by omega)]; omega
        · rw [c, if_neg (fun w => by omega), if_pos ⟨z, by omega⟩, if_neg (fun w => by omega), if_neg (fun w => by omega)]; omega
        · rw [c, if_neg (fun w => by omega), if_neg (fun w => by omega), if_pos ⟨z, by omega⟩, if_neg (fun w => by omega)]; omega
        · rw [c, if_neg (fun w => by omega), if_neg (fun w => by omega), if_neg (fun w => by omega), if_pos ⟨z, by omega⟩]; omega
      · rw [if_neg (c := nx p a = q ∧ e p a ≤ l) (fun w => y w.2), if_neg (fun w => by omega), if_neg (fun w => by omega), if_neg (fun w => by omega), if_neg (fun w => by omega)]; omega
    · rw [if_neg (c := nx p a = q ∧ e p a ≤ l) (fun w => z w.1), if_neg (fun w => z w.1), if_neg (fun w => z w.1), if_neg (fun w => z w.1), if_neg (fun w => z w.1)]; omega
/-- what the rows before j spread; state s is place s + 1 -/
def ms_Z (L : Int) (nx e V : Int → Int → Int) (q l : Int) : Nat → Int
  | 0 => 0
  | j + 1 => ms_Z L nx e V q l j + ms_Wx nx e (V ((j : Int) / 4 + 1) (j % 4)) q l (j / 4 + 1) (j % 4) L.toNat
theorem ms_Z_r {L : Int} {nx e V : Int → Int → Int} {q l : Int} (v : ∀ p l, 0 ≤ V p l) : ∀ j, 0 ≤ ms_Z L nx e V q l j := by
  intro j
  induction j with
  | zero => exact Int.le_refl 0
  | succ j ih => unfold ms_Z; have := ms_Wx_r (nx := nx) (e := e) (q := q) (l := l) (p := (j : Int) / 4 + 1) (m := (j : Int) % 4) (v ((j : Int) / 4 + 1) (j % 4)) L.toNat; omega
theorem ms_Z_4 {L : Int} {nx e V : Int → Int → Int} {q l : Int} (l0 : 0 ≤ l) (l4 : l < 4) (z : ms_Wa nx e V q l 0 L.toNat = 0) : ∀ s : Nat, (∀ p i : Int, 0 ≤ p → p < (s : Int) + 1 → 0 ≤ i → i < L → 0 ≤ e p i) → ms_Z L nx e V q l (4 * s) = ms_Wp L nx e V q l (s + 1) := by
  intro s
  induction s with
  | zero => intro _; show (0 : Int) = 0 + ms_Wa nx e V q l 0 L.toNat; omega
  | succ s ih =>
    intro h
    have i := ih (fun p i p0 p1 => h p i p0 (by omega))
    have w := ms_Wx_4 (nx := nx) (e := e) (V := V) (q := q) (p := (s : Int) + 1) l0 l4 L.toNat (fun i i0 i1 => h _ i (by omega) (by omega) i0 (by omega))
    rw [show 4 * (s + 1) = 4 * s + 1 + 1 + 1 + 1 by omega]
    show ms_Z L nx e V q l (4 * s) + ms_Wx nx e (V (((4 * s : Nat) : Int) / 4 + 1) (((4 * s : Nat) : Int) % 4)) q l (((4 * s : Nat) : Int) / 4 + 1) (((4 * s : Nat) : Int) % 4) L.toNat + ms_Wx nx e (V (((4 * s + 1 : Nat) : Int) / 4 + 1) (((4 * s + 1 : Nat) : Int) % 4)) q l (((4 * s + 1 : Nat) : Int) / 4 + 1) (((4 * s + 1 : Nat) : Int) % 4) L.toNat + ms_Wx nx e (V (((4 * s + 1 + 1 : Nat) : Int) / 4 + 1) (((4 * s + 1 + 1 : Nat) : Int) % 4)) q l (((4 * s + 1 + 1 : Nat) : Int) / 4 + 1) (((4 * s + 1 + 1 : Nat) : Int) % 4) L.toNat + ms_Wx nx e (V (((4 * s + 1 + 1 + 1 : Nat) : Int) / 4 + 1) (((4 * s + 1 + 1 + 1 : Nat) : Int) % 4)) q l (((4 * s + 1 + 1 + 1 : Nat) : Int) / 4 + 1) (((4 * s + 1 + 1 + 1 : Nat) : Int) % 4) L.toNat = ms_Wp L nx e V q l (s + 1) + ms_Wa nx e V q l ((s + 1 : Nat) : Int) L.toNat
    rw [show ((4 * s : Nat) : Int) / 4 = s by omega, show ((4 * s : Nat) : Int) % 4 = 0 by omega, show ((4 * s + 1 : Nat) : Int) / 4 = s by omega, show ((4 * s + 1 : Nat) : Int) % 4 = 1 by omega, show ((4 * s + 1 + 1 : Nat) : Int) / 4 = s by omega, show ((4 * s + 1 + 1 : Nat) : Int) % 4 = 2 by omega, show ((4 * s + 1 + 1 + 1 : Nat) : Int) / 4 = s by omega, show ((4 * s + 1 + 1 + 1 : Nat) : Int) % 4 = 3 by omega, show ((s + 1 : Nat) : Int) = (s : Int) + 1 by omega]
    omega
/-- the model's sum -/
def ms_U (c : Int → Int) (V : Int → Int → Int) (k : Int) : Nat → Int
  | 0 => 0
  | i + 1 => ms_U c V k i + (if (i : Int) % 4 + c (i / 4) = k then V (i / 4 + 1) (i % 4) else 0)
/-- no sentence of one letter at least leads to place 0 -/
theorem ms_W_0 {L P : Int} {nx mo : Int → Int → Int} {n : Nat} {l : Int} (h : ∀ p a, 0 ≤ p → p < P → 0 ≤ a → a < L → 1 ≤ nx p a) : ms_W L P nx mo (n + 1) 0 l = 0 := by
  have A : ∀ (V : Int → Int → Int) (p : Int), 0 ≤ p → p < P → ∀ a : Nat, (a : Int) ≤ L → ms_Wa nx mo V 0 l p a = 0 := by
    intro V p p0 p1 a
    induction a with
    | zero => intro _; rfl
    | succ a ih =>
      intro ha
      unfold ms_Wa
      rw [ih (by omega), if_neg (fun w => by have := h p a p0 p1 (by omega) (by omega); omega)]; rfl
  have B : ∀ (V : Int → Int → Int) (p : Nat), (p : Int) ≤ P → ms_Wp L nx mo V 0 l p = 0 := by
    intro V p
    induction p with
    | zero => intro _; rfl
    | succ p ih =>
      intro hp
      unfold ms_Wp
      rw [ih (by omega)]
      rcases Int.lt_or_le L 0 with z | z
      · rw [show L.toNat = 0 by omega]; rfl
      · rw [A V p (by omega) (by omega) _ (by omega)]; rfl
  show ms_Wp L nx mo _ 0 l P.toNat % 998244353 = 0
  rcases Int.lt_or_le P 0 with z | z
  · rw [show P.toNat = 0 by omega]; rfl
  · rw [B _ _ (by omega)]; rfl
/-- what the model's searches know of loops -/
def ms_E (h c L : Int) (mk : Int → Int → Int) (l : Int → Int) (F : Nat → Int → Int) (e : Int → Int → Int) : Prop := ∀ p a, 0 ≤ p → p < c + 1 → 0 ≤ a → a < L → e p a = mt_both h (mq_w (ms_S h F p)) (mk (l a)) 20 ∧ 0 ≤ e p a
/-- loops of a letter by itself -/
theorem ms_e0 {h : Int} {v : Int → Int} (h2 : 2 ≤ h) (h5 : h ≤ 5) (hv : mt_M h v) (ov : mt_ok h v) : mt_both h (mq_w (mt_str h)) v 20 = v 20 := by
  have i2 := (mt_both_p (b := v) (by omega) h5 (mt_str_M h5) hv (fun e e0 e1 => (mq_w_e h5 e e0 e1).symm : mt_eq h (mt_str h) (mq_w (mt_str h))) (by unfold mt_str mq_w; rw [if_neg (by omega), if_neg (by omega)])).2
  rw [← i2]
  exact (mt_id h2 h5 hv ov).2.1
set_option maxHeartbeats 1000000 in
theorem m_many {Q : Int → ml_St → Prop} {h told ts cap set n x : Int} {tb cl pr sz : Int → Int} {T : Int → Int → Int} {τ : ml_St} (i : IM h told ts cap tb cl pr sz T τ) (k0 : ¬ (mt_ls told (mt_mk h T sz) set ∧ 1 ≤ n ∧ n ≤ 1000 ∧ 0 ≤ x ∧ x ≤ 3) → ∀ σ, IM h told ts cap tb cl pr sz T σ → (∀ j, j < 215 → σ j = τ j) → Q (-1) σ) (k : mt_ls told (mt_mk h T sz) set → 1 ≤ n → n ≤ 1000 → 0 ≤ x → x ≤ 3 → ∀ σ L l F (c : Nat) nx e, IM h told ts cap tb cl pr sz T σ → (∀ j, j < 215 → σ j = τ j) → ms_M h told (mt_mk h T sz) set L l F c nx → ms_E h c L (mt_mk h T sz) l F e → Q (ms_U (fun s => mt_cl h (F s.toNat) cl) (ms_W L (c + 1) nx e n.toNat) x (4 * c) % 998244353) σ) : f_X12_many τ set n x Q := by
  have h2 := i.1.2.2.1
  have h5 := i.1.2.2.2.1
  unfold f_X12_many f_X12_many_u0
  unfold f_X12_many_u32
  refine s_isLetters i (fun no σ i' f _ => ⟨fun _ => k0 (fun y => no y.1) σ i' f, fun z => absurd rfl z⟩) (fun ls σ nl L hl _ => ⟨fun z => absurd z (by omega), fun _ => s_lies (fun n0 n1 _ => ⟨fun z => absurd z (by omega), fun _ => s_lies (fun x0 x1 _ => ⟨fun _ => s_joinsAll L (fun σ0 F c J0 hB hO h7 => ⟨3800, ?_⟩), fun z => absurd z (by omega)⟩) (fun z _ => ⟨fun z => absurd rfl z, fun _ => k0 (fun y => z ⟨y.2.2.2.1, y.2.2.2.2⟩) σ L.1 L.2.1⟩)⟩) (fun z _ => ⟨fun _ => k0 (fun y => z ⟨y.2.1, y.2.2.1⟩) σ L.1 L.2.1, fun z => absurd rfl z⟩)⟩)
  have kk := k ls n0 n1 x0 x1
  clear k k0
  -- the places, their loops
  have c945 := (mq_J_b J0).2.1
  have nl6 : 0 ≤ nl ∧ nl ≤ 6 := ⟨(mq_J_b J0).2.2.2.1, (mq_J_b J0).2.2.2.2.1⟩
  have hnx : ∀ p a, 0 ≤ p → p < (c : Int) + 1 → 0 ≤ a → a < nl → 1 ≤ ms_n σ0 p a ∧ ms_n σ0 p a < (c : Int) + 1 := fun p a p0 p1 a0 a1 => by
    obtain ⟨y1, y2, -⟩ := hB.2.2.2.2.1 p a p0 a0 a1 (Or.inl p1)
    exact ⟨y1, y2⟩
  generalize he : (fun p a => mt_both h (mq_w (ms_S h F p)) (mt_mk h T sz (σ 237 a)) 20) = e
  have heq : ∀ p a, e p a = mt_both h (mq_w (ms_S h F p)) (mt_mk h T sz (σ 237 a)) 20 := fun p a => by rw [← he]
  have hex : ∀ s a, 0 ≤ s → s < (c : Int) → 0 ≤ a → a < nl → σ0 241 (6 * s + a) = min (e (s + 1) a) 4 ∧ 0 ≤ e (s + 1) a := fun s a s0 s1 a0 a1 => by
    have o : σ0 241 (6 * ((s.toNat : Nat) : Int) + a) = min (mt_both h (mq_w (F s.toNat)) (mt_mk h T sz (σ 237 a)) 20) 4 := hO s.toNat a a0 a1 (by omega)
    have w := J0.2.2.2 s a s0 a0 a1 (by omega)
    rw [show ((s.toNat : Nat) : Int) = s by omega] at o
    rw [heq, ms_S_p (by omega), show (s + 1 - 1).toNat = s.toNat by omega]
    exact ⟨o, by omega⟩
  have hL : ∀ a, 0 ≤ a → a < nl → e 0 a = mt_mk h T sz (σ 237 a) 20 ∧ 0 ≤ e 0 a ∧ σ0 229 (σ0 237 a) = e 0 a := fun a a0 a1 => by
    have md := J0.1.2.2.2.2.2 a a0 a1
    obtain ⟨g1, g2, g3, g4, g5⟩ := IM_w J0.1.1 md
    have b := mq_20 (IM_cv J0.1.1 md.1 md.2.1).1 md.2.2
    rw [heq, ms_S_0, ← h7, ms_e0 h2 h5 g2 g3, g1.2.1]
    exact ⟨rfl, b.1, rfl⟩
  have hE : ms_E h c nl (mt_mk h T sz) (σ 237) F e := fun p a p0 p1 a0 a1 => by
    refine ⟨heq p a, ?_⟩
    by_cases z : p = 0
    · rw [z]; exact (hL a a0 a1).2.1
    · have := (hex (p - 1) a (by omega) (by omega) a0 a1).2
      rw [show p - 1 + 1 = p by omega] at this; exact this
  have kk := fun σ1 i1 j1 => kk σ1 nl (σ 237) F c (ms_n σ0) e i1 j1 ⟨hl, hB⟩ hE
  generalize hV : ms_W nl ((c : Int) + 1) (ms_n σ0) e = V at *
  have hVr : ∀ m p l, 0 ≤ V m p l ∧ V m p l ≤ 998244352 := fun m p l => by rw [← hV]; exact ms_W_r m p l
  have hV0 : ∀ m l, V (m + 1) 0 l = 0 := fun m l => by rw [← hV]; exact ms_W_0 (fun p a p0 p1 a0 a1 => (hnx p a p0 p1 a0 a1).1)
  have hVs : ∀ m q l, V (m + 1) q l = ms_Wp nl (ms_n σ0) e (V m) q l ((c : Int) + 1).toNat % 998244353 := fun m q l => by rw [← hV]; rfl
  have W00 : ∀ m q l, ms_Wa (ms_n σ0) e (V (m + 1)) q l 0 nl.toNat = 0 := fun m q l => by
    have : ∀ a : Nat, ms_Wa (ms_n σ0) e (V (m + 1)) q l 0 a = 0 := by
      intro a
      induction a with
      | zero => rfl
      | succ a ih => unfold ms_Wa; rw [ih, hV0]; split <;> rfl
    exact this _
  have hZ : ∀ m q l, 0 ≤ l → l < 4 → ms_Z nl (ms_n σ0) e (V (m + 1)) q l (4 * c) % 998244353 = V (m + 2) q l := fun m q l l0 l4 => by
    rw [ms_Z_4 l0 l4 (W00 m q l) c (fun p i p0 p1 i0 i1 => (hE p i p0 (by omega) i0 i1).2), hVs (m + 1), show ((c : Int) + 1).toNat = c + 1 by omega]
  -- what stays
  have U : ∀ (σ' σ1 : ml_St) (p q v : Int), p = 244 ∨ p = 245 → σ1 = ml_up σ' p q v → (∀ j, j ≠ 244 → j ≠ 245 → σ' j = σ0 j) → (∀ j, j ≠ 244 → j ≠ 245 → σ1 j = σ0 j) := fun σ' σ1 p q v hp ee f j h1 h2 => by rw [ee, ml_up_k (by omega)]; exact f j h1 h2
  have JJ : ∀ σ', (∀ j, j ≠ 244 → j ≠ 245 → σ' j = σ0 j) → mq_J h told ts cap tb cl pr sz T τ nl F c σ' := fun σ' f => mq_J_k (fun j h1 h2 => f j (by omega) (by omega)) (fun b _ => by rw [f 215 (by omega) (by omega)]) J0
  -- the sum
  have S : ∀ σ1, (∀ j, j ≠ 244 → j ≠ 245 → σ1 j = σ0 j) → (∀ s l, 0 ≤ s → s < (c : Int) → 0 ≤ l → l < 4 → σ1 244 (4 * s + l) = V n.toNat (s + 1) l) → f_X12_many_u338 Q σ1 x := by
    intro σ1 f hr
    have J := JJ σ1 f
    obtain ⟨b1, b2, b3, b4, b5, b6, b7⟩ := mq_J_b J
    have L : ∀ (N : Nat) (j : Nat), j ≤ 4 * c → 4 * c - j < N → 0 ≤ ms_U (fun s => mt_cl h (F s.toNat) cl) (V n.toNat) x j → ms_U (fun s => mt_cl h (F s.toNat) cl) (V n.toNat) x j ≤ 998244352 * j → f_X12_many_u344 Q (f_X12_many_u395 Q) N σ1 x (ms_U (fun s => mt_cl h (F s.toNat) cl) (V n.toNat) x j) j := by
      intro N
      induction N with
      | zero => intro j j1 hN; omega
      | succ N ih =>
        intro j j1 hN u0 u1
        unfold f_X12_many_u344
        rw [b1]
        have e1 : Int.tmod (j : Int) 4 = (j : Int) % 4 := Int.tmod_eq_emod_of_nonneg (by omega)
        have e2 : Int.tdiv (j : Int) 4 = (j : Int) / 4 := Int.tdiv_eq_ediv_of_nonneg (by omega)
        rw [e1, e2]
        have vr := hVr n.toNat ((j : Int) / 4 + 1) ((j : Int) % 4)
        have N1 : ∀ s1, j < 4 * c → ms_U (fun s => mt_cl h (F s.toNat) cl) (V n.toNat) x j + s1 = ms_U (fun s => mt_cl h (F s.toNat) cl) (V n.toNat) x (j + 1) → 0 ≤ s1 → s1 ≤ 998244352 → f_X12_many_u386 Q (f_X12_many_u344 Q (f_X12_many_u395 Q) N) σ1 x j (ms_U (fun s => mt_cl h (F s.toNat) cl) (V n.toNat) x j) s1 := fun s1 hj es s0 s9 => by
          unfold f_X12_many_u386
          intro y2 ey2
          rw [es, w64_id ⟨by omega, by omega⟩] at ey2
          refine ⟨mt_I (by omega) (by omega), fun y3 e3 => ?_⟩
          rw [ey2, show y3 = ((j + 1 : Nat) : Int) by omega]
          exact ih (j + 1) (by omega) (by omega) (by omega) (by omega)
        refine fun _ => ⟨mt_I (by omega) (by omega), fun q => ?_, fun q => ⟨by omega, mt_I (by omega) (by omega), by omega, mt_I (by omega) (by omega), by omega, by omega, fun _ => ?_⟩⟩
        · unfold f_X12_many_u395
          rw [Int.tmod_eq_emod_of_nonneg u0, mb_l2i2 (by omega) (by omega), show j = 4 * c by omega]
          exact ⟨by omega, kk σ1 J.1.1 J.1.2.1⟩
        · have b6' := b6 ((j : Int) / 4) (by omega) (by omega)
          obtain ⟨y1, y2, y3, y4⟩ := J.2.1.2.1 ((j : Int) / 4).toNat (by omega)
          rw [show ((((j : Int) / 4).toNat : Nat) : Int) = (j : Int) / 4 by omega] at y4
          refine ⟨mt_I (by omega) (by omega), fun z => N1 _ (by omega) ?_ (by omega) (by omega), fun z => ⟨by omega, by omega, fun _ => ?_⟩⟩
          · show _ = ms_U _ _ _ j + _
            rw [if_neg (fun z2 => z (by rw [y4]; exact z2))]
          · have v244 := hr ((j : Int) / 4) ((j : Int) % 4) (by omega) (by omega) (by omega) (by omega)
            rw [show 4 * ((j : Int) / 4) + (j : Int) % 4 = j by omega] at v244
            rw [v244]
            refine N1 _ (by omega) ?_ vr.1 vr.2
            show _ = ms_U _ _ _ j + _
            rw [if_pos (by rw [y4] at z; exact z)]
    unfold f_X12_many_u338
    exact ⟨3801, L 3801 0 (by omega) (by omega) (Int.le_refl 0) (Int.le_refl 0)⟩
  -- the rounds
  have R : ∀ (N : Nat) (t : Nat) (σ1 : ml_St), (t : Int) + 1 ≤ n → n - t < N → (∀ j, j ≠ 244 → j ≠ 245 → σ1 j = σ0 j) → (∀ s l, 0 ≤ s → s < (c : Int) → 0 ≤ l → l < 4 → σ1 244 (4 * s + l) = V (t + 1) (s + 1) l) → f_X12_many_u138 Q (f_X12_many_u338 Q) N σ1 n x ((t : Int) + 1) := by
    intro N
    induction N with
    | zero => intro t σ1 t1 hN; omega
    | succ N ih =>
      intro t σ1 t1 hN f hr
      -- copied back
      have C2 : ∀ (M : Nat) (j : Int) (σ : ml_St), 0 ≤ j → j ≤ 4 * c → 4 * c - j < M → (t : Int) + 2 ≤ n → (∀ j, j ≠ 244 → j ≠ 245 → σ j = σ0 j) → (∀ s l, 0 ≤ s → s < (c : Int) → 0 ≤ l → l < 4 → σ 245 (4 * s + l) = V (t + 2) (s + 1) l ∧ (4 * s + l < j → σ 244 (4 * s + l) = V (t + 2) (s + 1) l)) → f_X12_many_u301 Q (f_X12_many_u332 Q (f_X12_many_u138 Q (f_X12_many_u338 Q) N)) M σ n x ((t : Int) + 1) j := by
        intro M
        induction M with
        | zero => intro j σ j0 j1 hM; omega
        | succ M ihj =>
          intro j σ j0 j1 hM tt f hh
          have J := JJ σ f
          obtain ⟨b1, b2, b3, b4, b5, b6, b7⟩ := mq_J_b J
          unfold f_X12_many_u301
          rw [b1]
          refine fun _ => ⟨mt_I (by omega) (by omega), fun q => ?_, fun q => ⟨by omega, by omega, fun _ => ⟨by omega, by omega, fun σ5 s5 => ⟨mt_I (by omega) (by omega), fun y e => ?_⟩⟩⟩⟩
          · unfold f_X12_many_u332
            refine ⟨mt_I (by omega) (by omega), fun y e => ?_⟩
            rw [e, show (t : Int) + 1 + 1 = ((t + 1 : Nat) : Int) + 1 by omega]
            exact ih (t + 1) σ (by omega) (by omega) f (fun s l s0 s1 l0 l1 => (hh s l s0 s1 l0 l1).2 (by omega))
          · subst e
            refine ihj (j + 1) σ5 (by omega) (by omega) (by omega) tt (U σ σ5 _ _ _ (Or.inl rfl) s5 f) (fun s l s0 s1 l0 l1 => ⟨by rw [s5, ml_up_k (by omega)]; exact (hh s l s0 s1 l0 l1).1, fun z => ?_⟩)
            rw [s5]
            by_cases q : 4 * s + l = j
            · rw [q, ml_up_same, ← q]; exact (hh s l s0 s1 l0 l1).1
            · rw [ml_up_i q]; exact (hh s l s0 s1 l0 l1).2 (by omega)
      -- spread
      have C1 : ∀ (M : Nat) (j : Nat) (σ : ml_St), j ≤ 4 * c → 4 * c - j < M → (t : Int) + 2 ≤ n → (∀ j, j ≠ 244 → j ≠ 245 → σ j = σ0 j) → (∀ s l, 0 ≤ s → s < (c : Int) → 0 ≤ l → l < 4 → σ 244 (4 * s + l) = V (t + 1) (s + 1) l ∧ σ 245 (4 * s + l) = ms_Z nl (ms_n σ0) e (V (t + 1)) (s + 1) l j % 998244353) → f_X12_many_u175 Q (f_X12_many_u298 Q (f_X12_many_u138 Q (f_X12_many_u338 Q) N)) M σ n x ((t : Int) + 1) j := by
        intro M
        induction M with
        | zero => intro j σ j1 hM; omega
        | succ M ihj =>
          intro j σ j1 hM tt f hh
          have J := JJ σ f
          obtain ⟨b1, b2, b3, b4, b5, b6, b7⟩ := mq_J_b J
          unfold f_X12_many_u175
          rw [b1]
          refine fun _ => ⟨mt_I (by omega) (by omega), fun q => ?_, fun q => ⟨7, ?_⟩⟩
          · unfold f_X12_many_u298
            refine ⟨3801, C2 3801 0 σ (by omega) (by omega) (by omega) tt f (fun s l s0 s1 l0 l1 => ⟨?_, fun z => by omega⟩)⟩
            rw [(hh s l s0 s1 l0 l1).2, show j = 4 * c by omega, hZ t (s + 1) l l0 l1]
          have e1 : Int.tmod (j : Int) 4 = (j : Int) % 4 := Int.tmod_eq_emod_of_nonneg (by omega)
          have e2 : Int.tdiv (j : Int) 4 = (j : Int) / 4 := Int.tdiv_eq_ediv_of_nonneg (by omega)
          have jc : (j : Int) / 4 < (c : Int) := by omega
          have vr := hVr (t + 1) ((j : Int) / 4 + 1) ((j : Int) % 4)
          have vj : σ 244 j = V (t + 1) ((j : Int) / 4 + 1) ((j : Int) % 4) := by
            have := (hh ((j : Int) / 4) ((j : Int) % 4) (by omega) jc (by omega) (by omega)).1
            rw [show 4 * ((j : Int) / 4) + (j : Int) % 4 = j by omega] at this
            exact this
          have I : ∀ (M' : Nat) (l : Nat) (τ' : ml_St), (l : Int) ≤ nl → nl - l < M' → (∀ j, j ≠ 244 → j ≠ 245 → τ' j = σ0 j) → (∀ s m, 0 ≤ s → s < (c : Int) → 0 ≤ m → m < 4 → τ' 244 (4 * s + m) = V (t + 1) (s + 1) m ∧ τ' 245 (4 * s + m) = (ms_Z nl (ms_n σ0) e (V (t + 1)) (s + 1) m j + ms_Wx (ms_n σ0) e (V (t + 1) ((j : Int) / 4 + 1) ((j : Int) % 4)) (s + 1) m ((j : Int) / 4 + 1) ((j : Int) % 4) l) % 998244353) → f_X12_many_u189 Q (f_X12_many_u292 Q (f_X12_many_u175 Q (f_X12_many_u298 Q (f_X12_many_u138 Q (f_X12_many_u338 Q) N)) M)) M' τ' n x ((t : Int) + 1) j l := by
            intro M'
            induction M' with
            | zero => intro l τ' l1 hM'; omega
            | succ M' ihl =>
              intro l τ' l1 hM' f hh
              have J := JJ τ' f
              obtain ⟨b1, b2, b3, b4, b5, b6, b7⟩ := mq_J_b J
              have OUT : (∀ s m, 0 ≤ s → s < (c : Int) → 0 ≤ m → m < 4 → τ' 245 (4 * s + m) = ms_Z nl (ms_n σ0) e (V (t + 1)) (s + 1) m (j + 1) % 998244353) → f_X12_many_u292 Q (f_X12_many_u175 Q (f_X12_many_u298 Q (f_X12_many_u138 Q (f_X12_many_u338 Q) N)) M) τ' n x ((t : Int) + 1) j := fun hz => by
                unfold f_X12_many_u292
                refine ⟨mt_I (by omega) (by omega), fun y e => ?_⟩
                have e : y = ((j + 1 : Nat) : Int) := by omega
                subst e
                exact ihj (j + 1) τ' (by omega) (by omega) tt f (fun s m s0 s1 m0 m1 => ⟨(hh s m s0 s1 m0 m1).1, hz s m s0 s1 m0 m1⟩)
              have vj' : τ' 244 j = V (t + 1) ((j : Int) / 4 + 1) ((j : Int) % 4) := by
                have := (hh ((j : Int) / 4) ((j : Int) % 4) (by omega) jc (by omega) (by omega)).1
                rw [show 4 * ((j : Int) / 4) + (j : Int) % 4 = j by omega] at this
                exact this
              unfold f_X12_many_u189
              rw [b3, e1, e2, vj']
              refine fun _ => ⟨fun q => OUT (fun s m s0 s1 m0 m1 => ?_), fun q3 => ⟨by omega, by omega, fun _ => ⟨fun q => OUT (fun s m s0 s1 m0 m1 => ?_), fun _ => ⟨by omega, mt_I (by omega) (by omega), by omega, mt_I (by omega) (by omega), mt_I (by omega) (by omega), mt_I (by omega) (by omega), by omega, by omega, ?_⟩⟩⟩⟩
              · rw [(hh s m s0 s1 m0 m1).2, show l = nl.toNat by omega]; rfl
              · have v0 : V (t + 1) ((j : Int) / 4 + 1) ((j : Int) % 4) = 0 := by omega
                rw [(hh s m s0 s1 m0 m1).2, v0, ms_Wx_0]
                show _ = (ms_Z nl (ms_n σ0) e (V (t + 1)) (s + 1) m j + ms_Wx (ms_n σ0) e (V (t + 1) ((j : Int) / 4 + 1) ((j : Int) % 4)) (s + 1) m ((j : Int) / 4 + 1) ((j : Int) % 4) nl.toNat) % 998244353
                rw [v0, ms_Wx_0]
              obtain ⟨w1, w2, w3, w4⟩ := J.2.2.2 ((j : Int) / 4) l (by omega) (by omega) (by omega) (by omega)
              obtain ⟨x1', x2'⟩ := hex ((j : Int) / 4) l (by omega) jc (by omega) (by omega)
              have f241 : τ' 241 = σ0 241 := f 241 (by omega) (by omega)
              have f240 : τ' 240 = σ0 240 := f 240 (by omega) (by omega)
              have en : ms_n σ0 ((j : Int) / 4 + 1) l = τ' 240 (6 * ((j : Int) / 4) + l) + 1 := by
                unfold ms_n
                rw [if_neg (by omega), show 6 * ((j : Int) / 4 + 1 - 1) + (l : Int) = 6 * ((j : Int) / 4) + l by omega, f240]
              rw [← f241] at x1'
              have NX : ∀ τ1, (l : Int) < nl → (∀ j, j ≠ 244 → j ≠ 245 → τ1 j = σ0 j) → (∀ s m, 0 ≤ s → s < (c : Int) → 0 ≤ m → m < 4 → τ1 244 (4 * s + m) = V (t + 1) (s + 1) m ∧ τ1 245 (4 * s + m) = (ms_Z nl (ms_n σ0) e (V (t + 1)) (s + 1) m j + ms_Wx (ms_n σ0) e (V (t + 1) ((j : Int) / 4 + 1) ((j : Int) % 4)) (s + 1) m ((j : Int) / 4 + 1) ((j : Int) % 4) (l + 1)) % 998244353) → f_X12_many_u286 Q (f_X12_many_u189 Q (f_X12_many_u292 Q (f_X12_many_u175 Q (f_X12_many_u298 Q (f_X12_many_u138 Q (f_X12_many_u338 Q) N)) M)) M') τ1 n x ((t : Int) + 1) j l := fun τ1 ll f hh => by
                unfold f_X12_many_u286
                refine ⟨mt_I (by omega) (by omega), fun y e => ?_⟩
                have e : y = ((l + 1 : Nat) : Int) := by omega
                subst e
                exact ihl (l + 1) τ1 (by omega) (by omega) f hh
              refine fun _ => ⟨mt_I (by omega) (by omega), fun y11 e11 => ⟨by omega, mt_I (by omega) (by omega), mt_I (by omega) (by omega), mt_I (by omega) (by omega), by omega, by omega, fun _ => ⟨mt_I (by omega) (by omega), mt_I (by omega) (by omega), fun y18 e18 => ⟨fun q4 => NX τ' (by omega) f (fun s m s0 s1 m0 m1 => ⟨(hh s m s0 s1 m0 m1).1, ?_⟩), fun q4 => ⟨by omega, by omega, fun _ => ⟨by omega, by omega, fun _ => ⟨by omega, by omega, by omega, fun σ24 s24 => NX σ24 (by omega) (U τ' σ24 _ _ _ (Or.inr rfl) s24 f) (fun s m s0 s1 m0 m1 => ⟨?_, ?_⟩)⟩⟩⟩⟩⟩⟩⟩
              · rw [(hh s m s0 s1 m0 m1).2]
                rw [ms_Wx_s, if_neg (fun w => by omega), Int.add_zero]
              · rw [s24, ml_up_k (by omega)]; exact (hh s m s0 s1 m0 m1).1
              · rw [s24]
                have ey : y18 = 4 * τ' 240 (6 * ((j : Int) / 4) + l) + y11 := e18
                have y245 := (hh (τ' 240 (6 * ((j : Int) / 4) + l)) y11 w1 w2 (by omega) (by omega)).2
                rw [← ey] at y245
                rw [ms_Wx_s]
                by_cases z : 4 * s + m = y18
                · have zs : s = τ' 240 (6 * ((j : Int) / 4) + l) := by omega
                  have zm : m = y11 := by omega
                  have zr := ms_Z_r (L := nl) (nx := ms_n σ0) (e := e) (V := V (t + 1)) (q := s + 1) (l := m) (fun p l => (hVr (t + 1) p l).1) j
                  have xr := ms_Wx_r (nx := ms_n σ0) (e := e) (q := s + 1) (l := m) (p := (j : Int) / 4 + 1) (m := (j : Int) % 4) vr.1 l
                  rw [z, ml_up_same, y245, ← zs, ← zm, if_pos ⟨by omega, by omega⟩]
                  generalize ms_Z nl (ms_n σ0) e (V (t + 1)) (s + 1) m j = zz at *
                  generalize ms_Wx (ms_n σ0) e (V (t + 1) ((j : Int) / 4 + 1) ((j : Int) % 4)) (s + 1) m ((j : Int) / 4 + 1) ((j : Int) % 4) l = xx at *
                  generalize V (t + 1) ((j : Int) / 4 + 1) ((j : Int) % 4) = vv at *
                  rw [w64_id ⟨by omega, by omega⟩, Int.tmod_eq_emod_of_nonneg (by omega)]
                  omega
                · rw [ml_up_i z, (hh s m s0 s1 m0 m1).2, if_neg (fun w => z (by omega)), Int.add_zero]
          exact I 7 0 σ (by omega) (by omega) f (fun s m s0 s1 m0 m1 => ⟨(hh s m s0 s1 m0 m1).1, by rw [(hh s m s0 s1 m0 m1).2]; show _ = (_ + (0 : Int)) % _; rw [Int.add_zero]⟩)
      -- the new row is emptied
      have C0 : ∀ (M : Nat) (j : Int) (σ : ml_St), 0 ≤ j → j ≤ 4 * c → 4 * c - j < M → (t : Int) + 2 ≤ n → (∀ j, j ≠ 244 → j ≠ 245 → σ j = σ0 j) → (∀ s l, 0 ≤ s → s < (c : Int) → 0 ≤ l → l < 4 → σ 244 (4 * s + l) = V (t + 1) (s + 1) l ∧ (4 * s + l < j → σ 245 (4 * s + l) = 0)) → f_X12_many_u147 Q (f_X12_many_u172 Q (f_X12_many_u138 Q (f_X12_many_u338 Q) N)) M σ n x ((t : Int) + 1) j := by
        intro M
        induction M with
        | zero => intro j σ j0 j1 hM; omega
        | succ M ihj =>
          intro j σ j0 j1 hM tt f hh
          have J := JJ σ f
          obtain ⟨b1, b2, b3, b4, b5, b6, b7⟩ := mq_J_b J
          unfold f_X12_many_u147
          rw [b1]
          refine fun _ => ⟨mt_I (by omega) (by omega), fun q => ?_, fun q => ⟨by omega, by omega, fun σ4 s4 => ⟨mt_I (by omega) (by omega), fun y e => ?_⟩⟩⟩
          · unfold f_X12_many_u172
            exact ⟨3801, C1 3801 0 σ (by omega) (by omega) tt f (fun s l s0 s1 l0 l1 => ⟨(hh s l s0 s1 l0 l1).1, (hh s l s0 s1 l0 l1).2 (by omega)⟩)⟩
          · subst e
            refine ihj (j + 1) σ4 (by omega) (by omega) (by omega) tt (U σ σ4 _ _ _ (Or.inr rfl) s4 f) (fun s l s0 s1 l0 l1 => ⟨by rw [s4, ml_up_k (by omega)]; exact (hh s l s0 s1 l0 l1).1, fun z => ?_⟩)
            rw [s4]
            by_cases q : 4 * s + l = j
            · rw [q, ml_up_same]
            · rw [ml_up_i q]; exact (hh s l s0 s1 l0 l1).2 (by omega)
      unfold f_X12_many_u138
      have b2 := (mq_J_b (JJ σ1 f)).2.1
      refine ⟨fun q => S σ1 f ?_, fun q => ⟨3801, C0 3801 0 σ1 (by omega) (by omega) (by omega) (by omega) f (fun s l s0 s1 l0 l1 => ⟨hr s l s0 s1 l0 l1, fun z => by omega⟩)⟩⟩
      rw [show n.toNat = t + 1 by omega]; exact hr
  -- the first row
  have one : ∀ q l, ms_W nl ((c : Int) + 1) (ms_n σ0) e 1 q l = ms_Wa (ms_n σ0) e (fun p l => if p = 0 ∧ l = 0 then 1 else 0) q l 0 nl.toNat := fun q l => by
    have A : ∀ (p : Int), p ≠ 0 → ∀ a : Nat, ms_Wa (ms_n σ0) e (fun p l => if p = 0 ∧ l = 0 then (1 : Int) else 0) q l p a = 0 := by
      intro p p0 a
      induction a with
      | zero => rfl
      | succ a ih =>
        unfold ms_Wa
        rw [ih]
        split
        · show (0 : Int) + (if p = 0 ∧ _ = 0 then (1 : Int) else 0) = 0; rw [if_neg (fun w => p0 w.1)]; rfl
        · rfl
    have B : ∀ p : Nat, ms_Wp nl (ms_n σ0) e (fun p l => if p = 0 ∧ l = 0 then (1 : Int) else 0) q l (p + 1) = ms_Wa (ms_n σ0) e (fun p l => if p = 0 ∧ l = 0 then 1 else 0) q l 0 nl.toNat := by
      intro p
      induction p with
      | zero => show (0 : Int) + _ = _; rw [Int.zero_add]; rfl
      | succ p ih =>
        show ms_Wp nl (ms_n σ0) e _ q l (p + 1) + ms_Wa (ms_n σ0) e _ q l ((p + 1 : Nat) : Int) nl.toNat = _
        rw [ih, A ((p + 1 : Nat) : Int) (by omega), Int.add_zero]
    have C := ms_Wa_r (nx := ms_n σ0) (mo := e) (V := fun p l => if p = 0 ∧ l = 0 then (1 : Int) else 0) (q := q) (l := l) (p := 0)
    have D : 0 ≤ ms_Wa (ms_n σ0) e (fun p l => if p = 0 ∧ l = 0 then (1 : Int) else 0) q l 0 nl.toNat ∧ ms_Wa (ms_n σ0) e (fun p l => if p = 0 ∧ l = 0 then (1 : Int) else 0) q l 0 nl.toNat ≤ nl.toNat := by
      have : ∀ a : Nat, 0 ≤ ms_Wa (ms_n σ0) e (fun p l => if p = 0 ∧ l = 0 then (1 : Int) else 0) q l 0 a ∧ ms_Wa (ms_n σ0) e (fun p l => if p = 0 ∧ l = 0 then (1 : Int) else 0) q l 0 a ≤ a := by
        intro a
        induction a with
        | zero => exact ⟨Int.le_refl 0, Int.le_refl 0⟩
        | succ a ih =>
          unfold ms_Wa
          split
          · have : 0 ≤ (fun (p l : Int) => if p = 0 ∧ l = 0 then (1 : Int) else 0) 0 (l - e 0 a) ∧ (fun (p l : Int) => if p = 0 ∧ l = 0 then (1 : Int) else 0) 0 (l - e 0 a) ≤ 1 := by dsimp only; split <;> omega
            omega
          · omega
      exact this _
    show ms_Wp nl (ms_n σ0) e (fun q l => if q = 0 ∧ l = 0 then 1 else 0) q l ((c : Int) + 1).toNat % 998244353 = _
    rw [show ((c : Int) + 1).toNat = c + 1 by omega, B c, Int.emod_eq_of_lt D.1 (by omega)]
  have A2 : ∀ (N : Nat) (l : Nat) (σ1 : ml_St), (l : Int) ≤ nl → nl - l < N → (∀ j, j ≠ 244 → j ≠ 245 → σ1 j = σ0 j) → (∀ s m, 0 ≤ s → s < (c : Int) → 0 ≤ m → m < 4 → σ1 244 (4 * s + m) = ms_Wa (ms_n σ0) e (fun p l => if p = 0 ∧ l = 0 then 1 else 0) (s + 1) m 0 l ∧ 0 ≤ σ1 244 (4 * s + m) ∧ σ1 244 (4 * s + m) ≤ l) → f_X12_many_u69 Q (f_X12_many_u135 Q) N σ1 n x l := by
    intro N
    induction N with
    | zero => intro l σ1 l1 hN; omega
    | succ N ih =>
      intro l σ1 l1 hN f hh
      have J := JJ σ1 f
      obtain ⟨b1, b2, b3, b4, b5, b6, b7⟩ := mq_J_b J
      have NX : ∀ σ1, (l : Int) < nl → (∀ j, j ≠ 244 → j ≠ 245 → σ1 j = σ0 j) → (∀ s m, 0 ≤ s → s < (c : Int) → 0 ≤ m → m < 4 → σ1 244 (4 * s + m) = ms_Wa (ms_n σ0) e (fun p l => if p = 0 ∧ l = 0 then 1 else 0) (s + 1) m 0 (l + 1) ∧ 0 ≤ σ1 244 (4 * s + m) ∧ σ1 244 (4 * s + m) ≤ ((l + 1 : Nat) : Int)) → f_X12_many_u129 Q (f_X12_many_u69 Q (f_X12_many_u135 Q) N) σ1 n x l := fun σ1 ll f hh => by
        unfold f_X12_many_u129
        refine ⟨mt_I (by omega) (by omega), fun y e => ?_⟩
        have e : y = ((l + 1 : Nat) : Int) := by omega
        subst e
        exact ih (l + 1) σ1 (by omega) (by omega) f hh
      unfold f_X12_many_u69
      rw [b3]
      refine fun _ => ⟨fun q => ?_, fun q => ⟨by omega, by omega, fun _ => ?_⟩⟩
      · unfold f_X12_many_u135
        have r := R 1001 0 σ1 (by omega) (by omega) f (fun s m s0 s1 m0 m1 => by
          rw [(hh s m s0 s1 m0 m1).1, show l = nl.toNat by omega, ← one, hV])
        exact ⟨1001, r⟩
      obtain ⟨w1, w2, w3, w4, w5⟩ := b7 l (by omega) (by omega)
      obtain ⟨y1, y2, y3⟩ := hL l (by omega) (by omega)
      have f229 : σ1 229 (σ1 237 l) = e 0 l := by rw [f 229 (by omega) (by omega), f 237 (by omega) (by omega)]; exact y3
      have en : ms_n σ0 0 l = σ1 242 l + 1 := by unfold ms_n; rw [if_pos rfl, f 242 (by omega) (by omega)]
      rw [f229]
      refine ⟨w1, by omega, fun _ => ⟨fun c4 => NX σ1 (by omega) f (fun s m s0 s1 m0 m1 => ?_), fun q2 => ?_⟩⟩
      · obtain ⟨u1, u2, u3⟩ := hh s m s0 s1 m0 m1
        refine ⟨?_, u2, by omega⟩
        rw [ms_Wa_s, if_neg (fun w => by omega), Int.add_zero]; exact u1
      rw [mb_l2i2 (by omega) (by omega)]
      refine ⟨by omega, by omega, fun _ => ⟨mt_I (by omega) (by omega), by omega, by omega, fun _ => ⟨w1, by omega, fun _ => ⟨mt_I (by omega) (by omega), by omega, by omega, fun _ => ⟨by omega, by omega, fun σ13 s13 => NX σ13 (by omega) (U σ1 σ13 _ _ _ (Or.inl rfl) s13 f) (fun s m s0 s1 m0 m1 => ?_)⟩⟩⟩⟩⟩
      obtain ⟨u1, u2, u3⟩ := hh s m s0 s1 m0 m1
      obtain ⟨v1, v2, v3⟩ := hh (σ1 242 l) (e 0 l) w4 w5 y2 (by omega)
      rw [ms_Wa_s]
      rw [s13]
      by_cases z : 4 * s + m = 4 * σ1 242 l + e 0 l
      · have zs : s = σ1 242 l := by omega
        have zm : m = e 0 l := by omega
        rw [z, ml_up_same, w64_id ⟨by omega, by omega⟩, if_pos ⟨by omega, by omega⟩]
        show _ = _ + (if (0 : Int) = 0 ∧ m - e 0 l = 0 then (1 : Int) else 0) ∧ _
        rw [if_pos ⟨rfl, by omega⟩]
        subst zs; subst zm
        exact ⟨by rw [v1], by omega, by omega⟩
      · rw [ml_up_i z]
        refine ⟨?_, u2, by omega⟩
        by_cases y : ms_n σ0 0 l = s + 1 ∧ e 0 l ≤ m
        · rw [if_pos y]
          show _ = _ + (if (0 : Int) = 0 ∧ m - e 0 l = 0 then (1 : Int) else 0)
          rw [if_neg (fun w => z (by omega)), Int.add_zero]; exact u1
        · rw [if_neg y, Int.add_zero]; exact u1
  have A1 : ∀ (N : Nat) (j : Int) (σ1 : ml_St), 0 ≤ j → j ≤ 4 * c → 4 * c - j < N → (∀ j, j ≠ 244 → j ≠ 245 → σ1 j = σ0 j) → (∀ s m, 0 ≤ s → s < (c : Int) → 0 ≤ m → m < 4 → 4 * s + m < j → σ1 244 (4 * s + m) = 0) → f_X12_many_u41 Q (f_X12_many_u66 Q) N σ1 n x j := by
    intro N
    induction N with
    | zero => intro j σ1 j0 j1 hN; omega
    | succ N ih =>
      intro j σ1 j0 j1 hN f hh
      obtain ⟨b1, b2, b3, b4, b5, b6, b7⟩ := mq_J_b (JJ σ1 f)
      unfold f_X12_many_u41
      rw [b1]
      refine fun _ => ⟨mt_I (by omega) (by omega), fun q => ?_, fun q => ⟨by omega, by omega, fun σ4 s4 => ⟨mt_I (by omega) (by omega), fun y e => ?_⟩⟩⟩
      · unfold f_X12_many_u66
        refine ⟨7, A2 7 0 σ1 (by omega) (by omega) f (fun s m s0 s1 m0 m1 => ?_)⟩
        rw [hh s m s0 s1 m0 m1 (by omega)]
        exact ⟨rfl, Int.le_refl 0, Int.le_refl 0⟩
      · subst e
        refine ih (j + 1) σ4 (by omega) (by omega) (by omega) (U σ1 σ4 _ _ _ (Or.inl rfl) s4 f) (fun s m s0 s1 m0 m1 z => ?_)
        rw [s4]
        by_cases q : 4 * s + m = j
        · rw [q, ml_up_same]
        · rw [ml_up_i q]; exact hh s m s0 s1 m0 m1 (by omega)
  have := A1 3800 0 σ0 (by omega) (by omega) (by omega) (fun _ _ _ => rfl) (fun s m s0 s1 m0 m1 z => by omega)
  exact this
