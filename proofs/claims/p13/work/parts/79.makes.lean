/-! the model: what a TEXT makes -/
theorem mt_rp_c {h : Int} (h2 : 0 ≤ h) (h5 : h ≤ 5) : ∀ (F : Nat) (r : Int) (it bs it' bs' : Int → Int), mt_M h it → mt_M h bs → mt_weq h it it' → mt_weq h bs bs' → mt_weq h (mt_rp h F r it bs) (mt_rp h F r it' bs') := by
  intro F
  induction F with
  | zero => intro r it bs it' bs' _ _ e _; exact e
  | succ F ih =>
    intro r it bs it' bs' hi hb ei eb
    unfold mt_rp
    by_cases c : r ≤ 0
    · rw [if_pos c, if_pos c]; exact ei
    · rw [if_neg c, if_neg c]
      by_cases d : r % 2 = 0
      · rw [if_pos d, if_pos d]; exact ih _ _ _ _ _ hi (mt_both_M h5 hb hb) ei (mt_both_c h2 h5 hb hb eb eb)
      · rw [if_neg d, if_neg d]; exact ih _ _ _ _ _ (mt_both_M h5 hi hb) (mt_both_M h5 hb hb) (mt_both_c h2 h5 hi hb ei eb) (mt_both_c h2 h5 hb hb eb eb)
theorem mt_rp_1 {h : Int} {it : Int → Int} : mt_rp h 40 1 (mt_str h) it = mt_both h (mt_str h) it := by
  rw [show (40 : Nat) = 38 + 1 + 1 from rfl]
  conv => lhs; unfold mt_rp
  rw [if_neg (by omega), if_neg (by omega), show (1 : Int) / 2 = 0 by omega]
  unfold mt_rp
  rw [if_pos (by omega)]
theorem mt_rp_0 {h : Int} {it bs : Int → Int} {F : Nat} : mt_rp h F 0 it bs = it := by
  cases F with
  | zero => rfl
  | succ F => unfold mt_rp; rw [if_pos (Int.le_refl 0)]
def mt_fp (z : Int) (P : Int → Prop) (τ τ' : ml_St) : Prop := (∀ k, k ≠ 215 → k ≠ 227 → k ≠ 228 → k ≠ 229 → k ≠ 230 → k ≠ 231 → k ≠ 232 → τ' k = τ k) ∧ (∀ b, b ≠ z → b ≠ 27 → τ' 215 b = τ 215 b) ∧ (∀ m, ¬ P m → (∀ e, 0 ≤ e → e < 10 → τ' 227 (10 * m + e) = τ 227 (10 * m + e) ∧ τ' 228 (10 * m + e) = τ 228 (10 * m + e)) ∧ τ' 229 m = τ 229 m ∧ τ' 230 m = τ 230 m ∧ τ' 231 m = τ 231 m)
theorem mt_fp_r {z : Int} {P : Int → Prop} {τ : ml_St} : mt_fp z P τ τ := ⟨fun _ _ _ _ _ _ _ _ => rfl, fun _ _ _ => rfl, fun _ _ => ⟨fun _ _ _ => ⟨rfl, rfl⟩, rfl, rfl, rfl⟩⟩
theorem mt_fp_t {z : Int} {P : Int → Prop} {τ τ1 τ2 : ml_St} (a : mt_fp z P τ τ1) (b : mt_fp z P τ1 τ2) : mt_fp z P τ τ2 := by
  obtain ⟨a1, a2, a3⟩ := a
  obtain ⟨b1, b2, b3⟩ := b
  refine ⟨fun k g1 g2 g3 g4 g5 g6 g7 => by rw [b1 k g1 g2 g3 g4 g5 g6 g7, a1 k g1 g2 g3 g4 g5 g6 g7], fun j g g' => by rw [b2 j g g', a2 j g g'], fun m hm => ?_⟩
  obtain ⟨x1, x2, x3, x4⟩ := a3 m hm
  obtain ⟨y1, y2, y3, y4⟩ := b3 m hm
  refine ⟨fun e e0 e1 => ?_, y2.trans x2, y3.trans x3, y4.trans x4⟩
  exact ⟨(y1 e e0 e1).1.trans (x1 e e0 e1).1, (y1 e e0 e1).2.trans (x1 e e0 e1).2⟩
theorem mt_fp_mf {z : Int} {P : Int → Prop} {c : Int} {τ τ' : ml_St} (hc : P c) (f : mt_mf c τ τ') : mt_fp z P τ τ' := by
  obtain ⟨f1, f2, f3, f4⟩ := f
  refine ⟨f1, fun b _ hb => f2 b hb, fun m hm => ?_⟩
  have ne : m ≠ c := fun q => hm (q ▸ hc)
  exact ⟨fun e e0 e1 => f3 _ (by omega), (f4 m ne).1, (f4 m ne).2.1, (f4 m ne).2.2⟩
theorem mt_fp_w {z : Int} {P P' : Int → Prop} {τ τ' : ml_St} (hP : ∀ m, P m → P' m) (f : mt_fp z P τ τ') : mt_fp z P' τ τ' := ⟨f.1, f.2.1, fun m hm => f.2.2 m (fun q => hm (hP m q))⟩
theorem mt_fp_19 {P : Int → Prop} {v : Int} {τ : ml_St} : mt_fp 19 P τ (ml_up τ 215 19 v) := ⟨fun k h1 _ _ _ _ _ _ => ml_up_k h1, fun b hb _ => ml_up_i hb, fun m _ => ⟨fun e _ _ => by rw [ml_up_k (by omega), ml_up_k (by omega)]; exact ⟨rfl, rfl⟩, by rw [ml_up_k (by omega)], by rw [ml_up_k (by omega)], by rw [ml_up_k (by omega)]⟩⟩
theorem mt_fp_q {P : Int → Prop} {τ τ' : ml_St} (f : mt_fp 27 P τ τ') : mt_fp 19 P τ τ' := ⟨f.1, fun b _ hb => f.2.1 b hb hb, f.2.2⟩
theorem mt_mv_p {z : Int} {P : Int → Prop} {h m : Int} {τ τ' : ml_St} {v : Int → Int} (h5 : h ≤ 5) (f : mt_fp z P τ τ') (d : ¬ P m) (w : mt_mv h τ m v) : mt_mv h τ' m v := by
  obtain ⟨x1, x2, x3, x4⟩ := f.2.2 m d
  refine ⟨fun e e0 e1 => ?_, x2.trans w.2.1, x3.trans w.2.2.1, x4.trans w.2.2.2⟩
  exact ⟨(x1 e e0 (by omega)).1.trans (w.1 e e0 e1).1, (x1 e e0 (by omega)).2.trans (w.1 e e0 e1).2⟩
theorem s_goesOn {Q : ml_St → Prop} {d h : Int} {τ : ml_St} {a l : Int → Int} (h2 : 2 ≤ h) (h5 : h ≤ 5) (d0 : 0 ≤ d) (d6 : d ≤ 6) (th : τ 215 2 = h) (ha : mt_M h a) (hl : mt_M h l) (wa : mt_mv h τ (16 + 2 * d) a) (wl : mt_mv h τ (17 + 2 * d) l) (k : ∀ σ, mt_fp 27 (fun m => m = 63 ∨ m = 16 + 2 * d) τ σ → mt_mv h σ (16 + 2 * d) (mt_both h a l) → Q σ) : f_X12_goesOn τ d Q := by
  unfold f_X12_goesOn f_X12_goesOn_u0
  refine ⟨mt_I (by omega) (by omega), mt_I (by omega) (by omega), mt_I (by omega) (by omega), mt_I (by omega) (by omega), ?_⟩
  refine s_lays h2 h5 ⟨by omega, by omega⟩ ⟨by omega, by omega⟩ ⟨by omega, by omega⟩ th ha hl wa wl (by omega) (by omega) (fun σ5 f5 w5 => ⟨mt_I (by omega) (by omega), mt_I (by omega) (by omega), ?_⟩)
  refine s_copies h2 h5 ⟨by omega, by omega⟩ ⟨by omega, by omega⟩ (by omega) (by rw [f5.2.1 2 (by omega), th]) w5 (fun σ8 f8 w8 => k σ8 ?_ w8)
  exact mt_fp_t (mt_fp_mf (Or.inl rfl) f5) (mt_fp_mf (Or.inr rfl) f8)
theorem s_repeats {Q : ml_St → Prop} {m n h : Int} {τ : ml_St} {v : Int → Int} (h2 : 2 ≤ h) (h5 : h ≤ 5) (m0 : 0 ≤ m) (m1 : m < 60) (n0 : 0 ≤ n) (n1 : n < 1000000000) (th : τ 215 2 = h) (hv : mt_M h v) (wv : mt_mv h τ m v) (k : ∀ σ, mt_fp 27 (fun x => x = m ∨ x = 60 ∨ x = 61 ∨ x = 62) τ σ → mt_mv h σ m (mt_rp h 40 n (mt_str h) v) → Q σ) : f_X12_repeats τ m n Q := by
  have L : ∀ (N F : Nat) (r : Int) (it bs : Int → Int) (σ1 : ml_St), 0 ≤ r → r < ((2 ^ F : Nat) : Int) → F + 1 < N → mt_fp 27 (fun x => x = m ∨ x = 60 ∨ x = 61 ∨ x = 62) τ σ1 → mt_mv h σ1 60 it → mt_mv h σ1 61 bs → mt_M h it → mt_M h bs → r < 1000000000 → mt_rp h (F + 1) r it bs = mt_rp h 40 n (mt_str h) v → f_X12_repeats_u15 Q (f_X12_repeats_u69 Q) N σ1 m r := by
    intro N
    induction N with
    | zero => intro F r it bs σ1 _ _ hN; omega
    | succ N ih =>
      intro F r it bs σ1 r0 r1 hN f w1 w2 hi hb r9 er
      have th1 : σ1 215 2 = h := by rw [f.2.1 2 (by omega) (by omega), th]
      unfold f_X12_repeats_u15
      unfold mt_rp at er
      refine ⟨fun c => ?_, fun c => ?_⟩
      · rw [if_pos c] at er
        unfold f_X12_repeats_u69
        refine s_copies h2 h5 ⟨by omega, by omega⟩ ⟨m0, by omega⟩ (by omega) th1 w1 (fun σ2 f2 w2 => k σ2 (mt_fp_t f (mt_fp_mf (Or.inl rfl) f2)) ?_)
        rw [er] at w2
        exact w2
      rw [if_neg c] at er
      have tm : Int.tmod r 2 = r % 2 := Int.tmod_eq_emod_of_nonneg r0
      have td : Int.tdiv r 2 = r / 2 := Int.tdiv_eq_ediv_of_nonneg r0
      obtain ⟨F, rfl⟩ : ∃ F', F = F' + 1 := ⟨F - 1, by
        cases F with
        | zero => have : ((2 ^ 0 : Nat) : Int) = 1 := rfl; omega
        | succ F => omega⟩
      have p2 : ((2 ^ (F + 1) : Nat) : Int) = 2 * ((2 ^ F : Nat) : Int) := by rw [Nat.pow_succ, Int.natCast_mul]; omega
      have go : ∀ (it' : Int → Int) (σ2 : ml_St), mt_fp 27 (fun x => x = m ∨ x = 60 ∨ x = 61 ∨ x = 62) τ σ2 → mt_mv h σ2 60 it' → mt_mv h σ2 61 bs → mt_M h it' → mt_rp h (F + 1) (r / 2) it' (mt_both h bs bs) = mt_rp h 40 n (mt_str h) v → f_X12_repeats_u44 Q (f_X12_repeats_u15 Q (f_X12_repeats_u69 Q) N) σ2 m r := by
        intro it' σ2 f2 wi wb hi' er
        have th2 : σ2 215 2 = h := by rw [f2.2.1 2 (by omega) (by omega), th]
        unfold f_X12_repeats_u44
        rw [td]
        refine ⟨by omega, ⟨by omega, by omega⟩, fun y2 e2 => ?_⟩
        subst e2
        refine s_lays h2 h5 ⟨by omega, by omega⟩ ⟨by omega, by omega⟩ ⟨by omega, by omega⟩ th2 hb hb wb wb (by omega) (by omega) (fun σ3 f3 w3 => ?_)
        refine s_copies h2 h5 ⟨by omega, by omega⟩ ⟨by omega, by omega⟩ (by omega) (by rw [f3.2.1 2 (by omega), th2]) w3 (fun σ4 f4 w4 => ?_)
        refine ih F (r / 2) it' (mt_both h bs bs) σ4 (by omega) (by omega) (by omega) ?_ ?_ w4 hi' (mt_both_M h5 hb hb) (by omega) er
        · exact mt_fp_t f2 (mt_fp_t (mt_fp_mf (Or.inr (Or.inr (Or.inr rfl))) f3) (mt_fp_mf (Or.inr (Or.inr (Or.inl rfl))) f4))
        · exact mt_mv_f h5 f4 (by omega) (mt_mv_f h5 f3 (by omega) wi)
      rw [tm]
      refine ⟨by omega, ⟨by omega, by omega⟩, fun d => ?_, fun d => ?_⟩
      · rw [if_pos (by omega)] at er
        exact go it σ1 f w1 w2 hi er
      · rw [if_neg (by omega)] at er
        refine s_lays h2 h5 ⟨by omega, by omega⟩ ⟨by omega, by omega⟩ ⟨by omega, by omega⟩ th1 hi hb w1 w2 (by omega) (by omega) (fun σ4 f4 w4 => ?_)
        refine s_copies h2 h5 ⟨by omega, by omega⟩ ⟨by omega, by omega⟩ (by omega) (by rw [f4.2.1 2 (by omega), th1]) w4 (fun σ5 f5 w5 => ?_)
        refine go (mt_both h it bs) σ5 ?_ w5 ?_ (mt_both_M h5 hi hb) er
        · exact mt_fp_t f (mt_fp_t (mt_fp_mf (Or.inr (Or.inr (Or.inr rfl))) f4) (mt_fp_mf (Or.inr (Or.inl rfl)) f5))
        · exact mt_mv_f h5 f5 (by omega) (mt_mv_f h5 f4 (by omega) w2)
  unfold f_X12_repeats f_X12_repeats_u0
  refine s_straight h2 h5 ⟨by omega, by omega⟩ th (fun σ1 f1 w1 => ?_)
  have th1 : σ1 215 2 = h := by rw [f1.2.1 2 (by omega), th]
  refine s_copies h2 h5 ⟨m0, by omega⟩ ⟨by omega, by omega⟩ (by omega) th1 (mt_mv_f h5 f1 (by omega) wv) (fun σ2 f2 w2 => ⟨50, ?_⟩)
  have l : ((2 ^ 39 : Nat) : Int) = 549755813888 := rfl
  exact L 50 39 n (mt_str h) v σ2 n0 (by omega) (by omega) (mt_fp_t (mt_fp_mf (Or.inr (Or.inl rfl)) f1) (mt_fp_mf (Or.inr (Or.inr (Or.inl rfl))) f2)) (mt_mv_f h5 f2 (by omega) w1) w2 (mt_str_M h5) hv n1 rfl
