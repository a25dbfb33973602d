/-! the class's Loom: what a TEXT makes -/
def mt_rp (h : Int) : Nat → Int → (Int → Int) → (Int → Int) → (Int → Int)
  | 0, _, it, _ => it
  | F + 1, r, it, bs => if r ≤ 0 then it else mt_rp h F (r / 2) (if r % 2 = 0 then it else mt_both h it bs) (mt_both h bs bs)
def mt_rep (h times : Int) (it : Int → Int) : Int → Int := if times = 1 then it else mt_rp h 40 times (mt_str h) it
def mt_set (S : Int → Int → Int) (d : Int) (v : Int → Int) : Int → Int → Int := fun k => if k = d then v else S k
def mt_we (t : Int → Int) (n h : Int) (mk : Int → Int → Int) : Nat → Int → Int → (Int → Int → Int) → (Int → Int)
  | 0, _, _, S => S 0
  | F + 1, i, d, S =>
    if n ≤ i then S 0
    else if t i = 40 then mt_we t n h mk F (i + 1) (d + 1) (mt_set S (d + 1) (mt_str h))
    else if t i = 41 then mt_we t n h mk F (mt_tn t n (i + 1)) (d - 1) (mt_set S (d - 1) (mt_both h (S (d - 1)) (mt_rep h (mt_tm t n (i + 1)) (S d))))
    else if t i = 120 ∨ t i = 117 then mt_we t n h mk F (mt_tn t n (i + 2)) d (mt_set S d (mt_both h (S d) (mt_rep h (mt_tm t n (i + 2)) (mt_sgn h (t (i + 1) - 48) (if t i = 117 then 1 else 0)))))
    else mt_we t n h mk F (mt_tn t n (i + 1)) d (mt_set S d (mt_both h (S d) (mt_rep h (mt_tm t n (i + 1)) (mk (t i - 65)))))
def mt_wo (t : Int → Int) (n h : Int) (mk : Int → Int → Int) : Int → Int := mt_we t n h mk (n.toNat + 1) 0 0 (fun _ => mt_str h)
theorem mt_rp_M {h : Int} (h5 : h ≤ 5) : ∀ (F : Nat) (r : Int) (it bs : Int → Int), mt_M h it → mt_M h bs → mt_M h (mt_rp h F r it bs) := by
  intro F
  induction F with
  | zero => intro r it bs hi _; exact hi
  | succ F ih =>
    intro r it bs hi hb
    unfold mt_rp
    split
    · exact hi
    · refine ih _ _ _ ?_ (mt_both_M h5 hb hb)
      split
      · exact hi
      · exact mt_both_M h5 hi hb
theorem mt_rep_M {h times : Int} {it : Int → Int} (h5 : h ≤ 5) (hi : mt_M h it) : mt_M h (mt_rep h times it) := by
  unfold mt_rep
  split
  · exact hi
  · exact mt_rp_M h5 _ _ _ _ (mt_str_M h5) hi
def mt_f3 (σ σ' : ml_St) : Prop := ∀ j, (j < 13 ∨ 21 < j) → σ' j = σ j
theorem mt_f3_t {σ σ1 σ2 : ml_St} (a : mt_f3 σ σ1) (b : mt_f3 σ1 σ2) : mt_f3 σ σ2 := fun j hj => by rw [b j hj, a j hj]
theorem mt_f3_fr {k : Int} {σ σ' : ml_St} (h1 : 13 ≤ k) (h2 : k ≤ 19) (f : mt_fr k σ σ') : mt_f3 σ σ' := fun j hj => f j (by omega) (by omega) (by omega)
theorem s_repeatItem {Q : ml_St → Prop} {times h : Int} {σ : ml_St} {it : Int → Int} (h2 : 2 ≤ h) (h5 : h ≤ 5) (t0 : 0 ≤ times) (t1 : times < 1000000000) (w : mt_wv h σ 13 it) (hi : mt_M h it) (k : ∀ σ', mt_f3 σ σ' → mt_wv h σ' 13 (mt_rep h times it) → Q σ') : f_X4_repeatItem σ times h Q := by
  have L : ∀ (N F : Nat) (r : Int) (it bs : Int → Int) (σ1 : ml_St), 0 ≤ r → r < ((2 ^ F : Nat) : Int) → F + 1 < N → mt_f3 σ σ1 → mt_wv h σ1 13 it → mt_wv h σ1 16 bs → mt_M h it → mt_M h bs → r < 1000000000 → (∀ σ', mt_f3 σ σ' → mt_wv h σ' 13 (mt_rp h (F + 1) r it bs) → Q σ') → f_X4_repeatItem_u27 Q (f_X4_repeatItem_u98 Q) N σ1 h r := by
    intro N
    induction N with
    | zero => intro F r it bs σ1 _ _ hN; omega
    | succ N ih =>
      intro F r it bs σ1 r0 r1 hN f w1 w2 hi hb r9 kk
      unfold f_X4_repeatItem_u27
      unfold mt_rp at kk
      refine ⟨fun c => ?_, fun c => ?_⟩
      · rw [if_pos c] at kk
        unfold f_X4_repeatItem_u98
        exact kk σ1 f w1
      rw [if_neg c] at kk
      have tm : Int.tmod r 2 = r % 2 := Int.tmod_eq_emod_of_nonneg r0
      have td : Int.tdiv r 2 = r / 2 := Int.tdiv_eq_ediv_of_nonneg r0
      obtain ⟨F, rfl⟩ : ∃ F', F = F' + 1 := ⟨F - 1, by
        cases F with
        | zero => have : ((2 ^ 0 : Nat) : Int) = 1 := rfl; omega
        | succ F => omega⟩
      have p2 : ((2 ^ (F + 1) : Nat) : Int) = 2 * ((2 ^ F : Nat) : Int) := by rw [Nat.pow_succ, Int.natCast_mul]; omega
      have go : ∀ (it' : Int → Int) (σ2 : ml_St), mt_f3 σ σ2 → mt_wv h σ2 13 it' → mt_wv h σ2 16 bs → mt_M h it' → (∀ σ', mt_f3 σ σ' → mt_wv h σ' 13 (mt_rp h (F + 1) (r / 2) it' (mt_both h bs bs)) → Q σ') → f_X4_repeatItem_u64 Q (f_X4_repeatItem_u27 Q (f_X4_repeatItem_u98 Q) N) σ2 h r := by
        intro it' σ2 f2 wi wb hi' kk
        unfold f_X4_repeatItem_u64
        refine s_beBoth h2 h5 (by omega) (by omega) hb hb wb wb (fun σ3 f3 w3 => ?_)
        refine s_beLike h5 (by omega) w3 (fun σ4 f4 w4 => ⟨by omega, ?_, fun y4 e4 => ?_⟩)
        · rw [td]; exact ⟨by omega, by omega⟩
        · rw [td] at e4
          subst e4
          refine ih F (r / 2) it' (mt_both h bs bs) σ4 (by omega) (by omega) (by omega) ?_ ?_ w4 hi' (mt_both_M h5 hb hb) (by omega) kk
          · exact mt_f3_t f2 (mt_f3_t (mt_f3_fr (by omega) (by omega) f3) (mt_f3_fr (by omega) (by omega) f4))
          · exact mt_wv_fr f4 (by omega) (mt_wv_fr f3 (by omega) wi)
      rw [tm]
      refine ⟨by omega, ⟨by omega, by omega⟩, fun d => ?_, fun d => ?_⟩
      · rw [if_pos d] at kk
        exact go it σ1 f w1 w2 hi kk
      · rw [if_neg d] at kk
        refine s_beBoth h2 h5 (by omega) (by omega) hi hb w1 w2 (fun σ4 f4 w4 => ?_)
        refine s_beLike h5 (by omega) w4 (fun σ5 f5 w5 => ?_)
        refine go (mt_both h it bs) σ5 ?_ w5 ?_ (mt_both_M h5 hi hb) kk
        · exact mt_f3_t f (mt_f3_t (mt_f3_fr (by omega) (by omega) f4) (mt_f3_fr (by omega) (by omega) f5))
        · exact mt_wv_fr f5 (by omega) (mt_wv_fr f4 (by omega) w2)
  unfold f_X4_repeatItem f_X4_repeatItem_u0
  unfold mt_rep at k
  refine ⟨fun c => ?_, fun c => ?_⟩
  · rw [if_neg c] at k
    refine s_beLike h5 (by omega) w (fun σ2 f2 w2 => ?_)
    refine s_beStraight h2 h5 (fun σ3 f3 w3 => ⟨50, ?_⟩)
    have w16 := mt_wv_fr f3 (by omega) w2
    have l : ((2 ^ 39 : Nat) : Int) = 549755813888 := rfl
    exact L 50 39 times (mt_str h) it σ3 t0 (by omega) (by omega) (mt_f3_t (mt_f3_fr (by omega) (by omega) f2) (mt_f3_fr (by omega) (by omega) f3)) w3 w16 (mt_str_M h5) hi t1 k
  · rw [if_pos c] at k
    exact k σ (fun _ _ => rfl) w
theorem mt_is_eta {σ : ml_St} {p n i : Int} (e0 : σ 9 0 = p) (e1 : σ 9 1 = n) (e2 : σ 9 2 = i) : σ = mt_is σ p n i (σ 9 3) (σ 9 4) (σ 9 5) := by
  funext a b
  unfold mt_is
  by_cases q : a = 9
  · subst q
    by_cases r0 : b = 0
    · subst r0; simp [e0]
    by_cases r1 : b = 1
    · subst r1; simp [e1]
    by_cases r2 : b = 2
    · subst r2; simp [e2]
    by_cases r3 : b = 3
    · subst r3; simp
    by_cases r4 : b = 4
    · subst r4; simp
    by_cases r5 : b = 5
    · subst r5; simp
    simp [r0, r1, r2, r3, r4, r5]
  · simp [q]
def mt_fw (σ σ' : ml_St) : Prop := ∀ j, j ≠ 9 → (j < 13 ∨ 45 < j) → σ' j = σ j
theorem mt_fw_t {σ σ1 σ2 : ml_St} (a : mt_fw σ σ1) (b : mt_fw σ1 σ2) : mt_fw σ σ2 := fun j h1 hj => by rw [b j h1 hj, a j h1 hj]
theorem mt_fw_fr {k : Int} {σ σ' : ml_St} (h1 : 13 ≤ k) (h2 : k ≤ 43) (f : mt_fr k σ σ') : mt_fw σ σ' := fun j _ hj => f j (by omega) (by omega) (by omega)
theorem mt_fw_3 {σ σ' : ml_St} (f : mt_f3 σ σ') : mt_fw σ σ' := fun j _ hj => f j (by omega)
theorem mt_fw_is {σ : ml_St} {p n i kd v tm : Int} : mt_fw σ (mt_is σ p n i kd v tm) := fun j h1 _ => mt_is_k h1
theorem mt_wv_eq {h k : Int} {σ σ' : ml_St} {v : Int → Int} (e0 : σ' k = σ k) (e1 : σ' (k + 1) = σ (k + 1)) (e2 : σ' (k + 2) = σ (k + 2)) (w : mt_wv h σ k v) : mt_wv h σ' k v := by
  unfold mt_wv; rw [e0, e1, e2]; exact w
theorem s_weave {Q : ml_St → Prop} {p out n h w : Int} {σ0 : ml_St} {mk : Int → Int → Int} (tx : ml_tx p) (p0 : 114 < p) (o0 : 45 < out) (n0 : 0 ≤ n) (n1 : n ≤ 100) (h2 : 2 ≤ h) (h5 : h ≤ 5) (w0 : 0 ≤ w) (w1 : w ≤ 16) (g : mt_gr (σ0 p) n h w (n.toNat + 1) 0 0 1 = 0) (wm : ∀ v, 0 ≤ v → v < w → mt_wv h σ0 (121 + 6 * v) (mk v) ∧ mt_M h (mk v))
    (k : ∀ σ', (∀ j, j ≠ 9 → (j < 13 ∨ 45 < j) → j ≠ out → j ≠ out + 1 → j ≠ out + 2 → σ' j = σ0 j) → mt_wv h σ' out (mt_wo (σ0 p) n h mk) → mt_M h (mt_wo (σ0 p) n h mk) → Q σ') : f_X4_weave σ0 p out n h Q := by
  have KE : ∀ (σ : ml_St), mt_fw σ0 σ → mt_wv h σ 25 (mt_wo (σ0 p) n h mk) → mt_M h (mt_wo (σ0 p) n h mk) → f_X4_weave_u218 Q p out σ := by
    intro σ f wv hM
    unfold f_X4_weave_u218
    refine ⟨by omega, by omega, ?_⟩
    rw [show (25 : Int) + 3 * 0 = 25 by omega]
    refine s_beLike h5 (by omega) wv (fun σ' f' w' => k σ' (fun j h1 h2 h3 h4 h6 => ?_) w' hM)
    rw [f' j h3 h4 h6, f j h1 h2]
  have L : ∀ (F N : Nat) (i d need x7 : Int) (S : Int → Int → Int) (σ : ml_St), σ 9 0 = p → σ 9 1 = n → σ 9 2 = i → mt_fw σ0 σ → (∀ k, 0 ≤ k → k ≤ d → mt_wv h σ (25 + 3 * k) (S k) ∧ mt_M h (S k)) → 0 ≤ i → i ≤ n → 0 ≤ d → d ≤ 6 → 0 ≤ x7 → x7 ≤ i → n - i < F → n - x7 < N → mt_gr (σ0 p) n h w F i d need = 0 →
      (∀ (σ : ml_St), mt_fw σ0 σ → mt_wv h σ 25 (mt_we (σ0 p) n h mk F i d S) → mt_M h (mt_we (σ0 p) n h mk F i d S) → f_X4_weave_u218 Q p out σ) → f_X4_weave_u26 Q (f_X4_weave_u218 Q p out) p out N σ n h d x7 := by
    intro F
    induction F with
    | zero => intro N i d need x7 S σ _ _ _ _ _ i0 i1 d0 d6 x0 x1 hF; omega
    | succ F ih =>
      intro N i d need x7 S σ e0 e1 e2 f wS i0 i1 d0 d6 x0 x1 hF hN g kk
      obtain ⟨N, rfl⟩ : ∃ N', N = N' + 1 := ⟨N - 1, by omega⟩
      have ep : σ p = σ0 p := f p (by omega) (by omega)
      have S0 := wS 0 (by omega) d0
      rw [show (25 : Int) + 3 * 0 = 25 by omega] at S0
      unfold f_X4_weave_u26
      unfold mt_we at kk
      refine ⟨fun c => ?_, fun c => ?_⟩
      · rw [if_pos (by omega)] at kk
        exact kk σ f S0.1 S0.2
      -- behind an item: times, the product, on
      have IT : ∀ (i' d' : Int) (it : Int → Int) (σ2 : ml_St) (S' : Int → Int → Int), σ2 9 0 = p → σ2 9 1 = n → σ2 9 2 = i' → 0 ≤ σ2 9 5 → σ2 9 5 < 1000000000 → mt_fw σ0 σ2 → mt_wv h σ2 13 it → mt_M h it → (∀ k, 0 ≤ k → k ≤ d' → mt_wv h σ2 (25 + 3 * k) (S k) ∧ mt_M h (S k)) → i < i' → i' ≤ n → 0 ≤ d' → d' ≤ 6 → mt_gr (σ0 p) n h w F i' d' 0 = 0 → S' = mt_set S d' (mt_both h (S d') (mt_rep h (σ2 9 5) it)) →
          (∀ (σ : ml_St), mt_fw σ0 σ → mt_wv h σ 25 (mt_we (σ0 p) n h mk F i' d' S') → mt_M h (mt_we (σ0 p) n h mk F i' d' S') → f_X4_weave_u218 Q p out σ) → f_X4_weave_u165 Q (f_X4_weave_u26 Q (f_X4_weave_u218 Q p out) p out N) p out σ2 n h d' x7 := by
        intro i' d' it σ2 S' e0 e1 e2 t0 t1 f2 wi hi wS2 ii' in' d0' d6' g' hS kk
        unfold f_X4_weave_u165
        refine fun _ => s_repeatItem h2 h5 t0 t1 wi hi (fun σ3 f3 w3 => ⟨d0', by omega, ?_⟩)
        have wd : mt_wv h σ3 (25 + 3 * d') (S d') := mt_wv_eq (f3 _ (by omega)) (f3 _ (by omega)) (f3 _ (by omega)) (wS2 d' d0' (by omega)).1
        have hd := (wS2 d' d0' (by omega)).2
        refine s_beBoth h2 h5 (by omega) (by omega) hd (mt_rep_M h5 hi) wd w3 (fun σ4 f4 w4 => ⟨d0', by omega, ?_⟩)
        refine s_beLike h5 (by omega) w4 (fun σ6 f6 w6 => ?_)
        unfold f_X4_weave_u212
        refine ⟨mt_I (by omega) (by omega), fun y1 ey1 => ?_⟩
        subst ey1
        have e9 : σ6 9 = σ2 9 := by rw [f6 9 (by omega) (by omega) (by omega), f4 9 (by omega) (by omega) (by omega), f3 9 (by omega)]
        refine ih N i' d' 0 (x7 + 1) S' σ6 (by rw [e9, e0]) (by rw [e9, e1]) (by rw [e9, e2]) ?_ ?_ (by omega) in' d0' d6' (by omega) (by omega) (by omega) (by omega) g' kk
        · exact mt_fw_t f2 (mt_fw_t (mt_fw_3 f3) (mt_fw_t (mt_fw_fr (by omega) (by omega) f4) (mt_fw_fr (by omega) (by omega) f6)))
        · intro k k0 k1
          rw [hS]
          unfold mt_set
          by_cases q : k = d'
          · rw [if_pos q, q]; exact ⟨w6, mt_both_M h5 hd (mt_rep_M h5 hi)⟩
          · rw [if_neg q]
            refine ⟨?_, (wS2 k k0 k1).2⟩
            refine mt_wv_fr f6 (by omega) (mt_wv_fr f4 (by omega) ?_)
            exact mt_wv_eq (f3 _ (by omega)) (f3 _ (by omega)) (f3 _ (by omega)) (wS2 k k0 k1).1
      have eta := mt_is_eta e0 e1 e2
      have f3 : ∀ (i kd v tm : Int), mt_is σ p n i kd v tm 9 3 = kd := fun _ _ _ _ => rfl
      have f4 : ∀ (i kd v tm : Int), mt_is σ p n i kd v tm 9 4 = v := fun _ _ _ _ => rfl
      have f5 : ∀ (i kd v tm : Int), mt_is σ p n i kd v tm 9 5 = tm := fun _ _ _ _ => rfl
      have fI : ∀ (i kd v tm : Int), mt_fw σ0 (mt_is σ p n i kd v tm) := fun i kd v tm => mt_fw_t f mt_fw_is
      have wI : ∀ (i kd v tm k : Int) (x : Int → Int), 9 < k → mt_wv h σ k x → mt_wv h (mt_is σ p n i kd v tm) k x := fun i kd v tm k x hk wx => mt_wv_eq (mt_is_k (by omega)) (mt_is_k (by omega)) (mt_is_k (by omega)) wx
      rw [eta]
      rw [← ep] at g kk IT
      refine s_step (h := h) (w := w) (d := d) (need := need) (F := F) tx (by omega) i0 i1 n1 h5 g ?_ ?_ ?_ ?_ ?_
      · intro z _ _ _
        rw [if_pos z] at kk
        exact ⟨fun _ => kk _ (fI _ _ _ _) (wI _ _ _ _ _ _ (by omega) S0.1) S0.2, fun c => absurd rfl c⟩
      · intro z1 z2 z3 z4
        rw [if_neg (by omega), if_pos z2] at kk
        refine fun _ => ⟨fun c => absurd c (by omega), fun _ => ?_⟩
        rw [f3]
        refine fun _ => ⟨fun c => absurd rfl c, fun _ => ⟨mt_I (by omega) (by omega), fun y20 e20 => ?_⟩⟩
        have e20 : y20 = d + 1 := by omega
        subst e20
        refine ⟨by omega, by omega, s_beStraight h2 h5 (fun σ22 f22 w22 => ?_)⟩
        unfold f_X4_weave_u212
        refine ⟨mt_I (by omega) (by omega), fun y1 ey1 => ?_⟩
        subst ey1
        have e9 : σ22 9 = mt_is σ p n (i + 1) 0 (σ 9 4) 1 9 := f22 9 (by omega) (by omega) (by omega)
        rw [ep] at z4 kk
        refine ih N (i + 1) (d + 1) 1 (x7 + 1) _ σ22 (by rw [e9]; rfl) (by rw [e9]; rfl) (by rw [e9]; rfl) ?_ ?_ (by omega) (by omega) (by omega) (by omega) (by omega) (by omega) (by omega) (by omega) z4 kk
        · exact mt_fw_t (fI _ _ _ _) (mt_fw_fr (by omega) (by omega) f22)
        · intro k k0 k1
          unfold mt_set
          by_cases q : k = d + 1
          · rw [if_pos q, q]; exact ⟨w22, mt_str_M h5⟩
          · rw [if_neg q]
            exact ⟨mt_wv_fr f22 (by omega) (wI _ _ _ _ _ _ (by omega) (wS k k0 (by omega)).1), (wS k k0 (by omega)).2⟩
      · intro z1 z2 z3 z4 z5 z6
        rw [if_neg (by omega), if_neg (by omega), if_pos z2] at kk
        refine fun _ => ⟨fun c => absurd c (by omega), fun _ => ?_⟩
        rw [f3]
        refine fun _ => ⟨fun _ _ => ⟨fun c => absurd rfl c, fun _ => ⟨d0, by omega, ?_⟩⟩, fun c => absurd c (by omega)⟩
        have r := mt_tn_r (t := σ p) (n := n) (i := i + 1) (by omega)
        have rt := mt_tm_r (t := σ p) (n := n) (i := i + 1) (by omega) z5
        refine s_beLike h5 (by omega) (wI _ _ _ _ _ _ (by omega) (wS d d0 (by omega)).1) (fun σ16 f16 w16 => ⟨mt_I (by omega) (by omega), fun y18 e18 => ?_⟩)
        have e18 : y18 = d - 1 := by omega
        subst e18
        have e9 : σ16 9 = mt_is σ p n (mt_tn (σ p) n (i + 1)) 1 (σ 9 4) (mt_tm (σ p) n (i + 1)) 9 := f16 9 (by omega) (by omega) (by omega)
        have t5 : σ16 9 5 = mt_tm (σ p) n (i + 1) := by rw [e9]; rfl
        refine IT (mt_tn (σ p) n (i + 1)) (d - 1) (S d) σ16 _ (by rw [e9]; rfl) (by rw [e9]; rfl) (by rw [e9]; rfl) (by rw [t5]; exact rt.1) (by rw [t5]; exact rt.2) (mt_fw_t (fI _ _ _ _) (mt_fw_fr (by omega) (by omega) f16)) w16 (wS d d0 (by omega)).2 ?_ (by omega) r.2 (by omega) (by omega) z6 (by rw [t5]) kk
        intro k k0 k1
        exact ⟨mt_wv_fr f16 (by omega) (wI _ _ _ _ _ _ (by omega) (wS k k0 (by omega)).1), (wS k k0 (by omega)).2⟩
      · intro z1 z2 z3 z4 z5 z6
        rw [if_neg (by omega), if_neg (by omega), if_neg (by omega), if_pos z2] at kk
        refine fun _ => ⟨fun c => absurd c (by omega), fun _ => ?_⟩
        rw [f3]
        refine fun _ => ⟨fun _ _ => ⟨fun _ _ => ⟨fun c => absurd rfl c, fun _ => ?_⟩, fun c => absurd c (by omega)⟩, fun c => absurd c (by omega)⟩
        rw [f4]
        have r := mt_tn_r (t := σ p) (n := n) (i := i + 2) (by omega)
        have rt := mt_tm_r (t := σ p) (n := n) (i := i + 2) (by omega) z5
        have dv : (2 * (σ p (i + 1) - 48) + (if σ p i = 117 then 1 else 0)) / 2 = σ p (i + 1) - 48 := by split <;> omega
        have md : (2 * (σ p (i + 1) - 48) + (if σ p i = 117 then 1 else 0)) % 2 = if σ p i = 117 then 1 else 0 := by split <;> omega
        refine fun _ => s_beSign h2 h5 (by split <;> omega) (by rw [dv]; omega) (fun σ14 f14 w14 => ?_)
        rw [dv, md] at w14
        have e9 : σ14 9 = mt_is σ p n (mt_tn (σ p) n (i + 2)) 2 (2 * (σ p (i + 1) - 48) + (if σ p i = 117 then 1 else 0)) (mt_tm (σ p) n (i + 2)) 9 := f14 9 (by omega) (by omega) (by omega)
        have t5 : σ14 9 5 = mt_tm (σ p) n (i + 2) := by rw [e9]; rfl
        refine IT (mt_tn (σ p) n (i + 2)) d _ σ14 _ (by rw [e9]; rfl) (by rw [e9]; rfl) (by rw [e9]; rfl) (by rw [t5]; exact rt.1) (by rw [t5]; exact rt.2) (mt_fw_t (fI _ _ _ _) (mt_fw_fr (by omega) (by omega) f14)) w14 (mt_sgn_M h5 (by omega) (by omega)) ?_ (by omega) r.2 d0 d6 z6 (by rw [t5]) kk
        intro k k0 k1
        exact ⟨mt_wv_fr f14 (by omega) (wI _ _ _ _ _ _ (by omega) (wS k k0 (by omega)).1), (wS k k0 (by omega)).2⟩
      · intro z1 z2 z3 z4 z5 z6
        rw [if_neg (by omega), if_neg (by omega), if_neg (by omega), if_neg (by omega)] at kk
        refine fun _ => ⟨fun c => absurd c (by omega), fun _ => ?_⟩
        rw [f3]
        refine fun _ => ⟨fun _ _ => ⟨fun _ _ => ⟨fun _ => ?_, fun c => absurd c (by omega)⟩, fun c => absurd c (by omega)⟩, fun c => absurd c (by omega)⟩
        rw [f4]
        have r := mt_tn_r (t := σ p) (n := n) (i := i + 1) (by omega)
        have rt := mt_tm_r (t := σ p) (n := n) (i := i + 1) (by omega) z5
        obtain ⟨m1, m2⟩ := wm (σ p i - 65) (by omega) z4
        refine fun _ => ⟨by omega, by omega, ?_⟩
        rw [show 119 + 6 * (σ p i - 65) + 2 = 121 + 6 * (σ p i - 65) by omega]
        have m3 : mt_wv h σ (121 + 6 * (σ p i - 65)) (mk (σ p i - 65)) := mt_wv_eq (f _ (by omega) (by omega)) (f _ (by omega) (by omega)) (f _ (by omega) (by omega)) m1
        refine s_beLike h5 (by omega) (wI _ _ _ _ _ _ (by omega) m3) (fun σ12 f12 w12 => ?_)
        have e9 : σ12 9 = mt_is σ p n (mt_tn (σ p) n (i + 1)) 3 (σ p i - 65) (mt_tm (σ p) n (i + 1)) 9 := f12 9 (by omega) (by omega) (by omega)
        have t5 : σ12 9 5 = mt_tm (σ p) n (i + 1) := by rw [e9]; rfl
        refine IT (mt_tn (σ p) n (i + 1)) d _ σ12 _ (by rw [e9]; rfl) (by rw [e9]; rfl) (by rw [e9]; rfl) (by rw [t5]; exact rt.1) (by rw [t5]; exact rt.2) (mt_fw_t (fI _ _ _ _) (mt_fw_fr (by omega) (by omega) f12)) w12 m2 ?_ (by omega) r.2 d0 d6 z6 (by rw [t5]) kk
        intro k k0 k1
        exact ⟨mt_wv_fr f12 (by omega) (wI _ _ _ _ _ _ (by omega) (wS k k0 (by omega)).1), (wS k k0 (by omega)).2⟩
  unfold f_X4_weave f_X4_weave_u0
  refine ⟨by omega, by omega, ?_⟩
  rw [show (25 : Int) + 3 * 0 = 25 by omega]
  refine s_beStraight h2 h5 (fun σ2 f2 w2 => s_begin ⟨n.toNat + 1, ?_⟩)
  refine L (n.toNat + 1) (n.toNat + 1) 0 0 1 0 (fun _ => mt_str h) _ rfl rfl rfl ?_ ?_ (by omega) n0 (by omega) (by omega) (by omega) (by omega) (by omega) (by omega) g KE
  · exact mt_fw_t (mt_fw_fr (by omega) (by omega) f2) mt_fw_is
  · intro k k0 k1
    have : k = 0 := by omega
    subst this
    exact ⟨mt_wv_eq (mt_is_k (by omega)) (mt_is_k (by omega)) (mt_is_k (by omega)) w2, mt_str_M h5⟩
