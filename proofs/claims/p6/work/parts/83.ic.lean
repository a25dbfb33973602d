def ic_G (h told : Int) (σ : ml_St) : Prop := 1 ≤ σ 55 1 ∧ σ 55 1 ≤ 6 ∧ (∀ i, 0 ≤ i → i < σ 55 1 → 0 ≤ σ 56 i ∧ σ 56 i < told) ∧ 1 ≤ σ 55 2 ∧ σ 55 2 ≤ 946 ∧ (∀ x, 0 ≤ x → x < 945 → -1 ≤ σ 57 x ∧ σ 57 x < σ 55 2 ∧ σ 57 x ≠ 0) ∧ (∀ p i, 0 ≤ p → p < σ 55 2 → 0 ≤ i → i < σ 55 1 → 1 ≤ σ 58 (6 * p + i) ∧ σ 58 (6 * p + i) < σ 55 2 ∧ 0 ≤ σ 59 (6 * p + i) ∧ σ 59 (6 * p + i) ≤ 3) ∧ (∀ p, 0 ≤ p → p < σ 55 2 → ∃ v, mt_M h v ∧ ∀ e, 0 ≤ e → e < 2 * h → σ 61 (10 * p + e) = v e) ∧ 0 ≤ σ 55 11 ∧ σ 55 11 ≤ 1000
/-- pairs alone, as a weave -/
def mq_w (f : Int → Int) (i : Int) : Int := if i < 10 then f i else 0
/-- places of sentences in the order in which they are found; the letters of the places below frm are gone through, and of frm those below i -/
def mt_bl (p a frm i : Int) : Prop := p < frm ∨ (p = frm ∧ a < i)
def mt_bf (h L : Int) (lt S : Int → Int → Int) (nx : Int → Int → Int) (P frm i : Int) : Prop := 1 ≤ P ∧ mt_eq h (S 0) (mt_str h) ∧ (∀ p, 0 ≤ p → p < P → mt_M h (S p)) ∧ (∀ p q, 1 ≤ p → p < q → q < P → ¬ mt_eq h (S p) (S q)) ∧ (∀ p a, 0 ≤ p → 0 ≤ a → a < L → mt_bl p a frm i → 1 ≤ nx p a ∧ nx p a < P ∧ mt_eq h (S (nx p a)) (mt_both h (mq_w (S p)) (lt a)) ∧ ∀ q, 1 ≤ q → q < nx p a → ∃ p' a', 0 ≤ p' ∧ 0 ≤ a' ∧ a' < L ∧ mt_bl p' a' p a ∧ nx p' a' = q) ∧ ∀ q, 1 ≤ q → q < P → ∃ p a, 0 ≤ p ∧ p < q ∧ 0 ≤ a ∧ a < L ∧ mt_bl p a frm i ∧ nx p a = q
/-- the letters of a set, by their numbers -/
def mt_bc (set : Int) : Nat → Int
  | 0 => 0
  | n + 1 => mt_bc set n + mb_t set n
def ic_L (set told L : Int) (l : Int → Int) : Prop := L = mt_bc set told.toNat ∧ ∀ v : Nat, (v : Int) < told → mb_t set v = 1 → l (mt_bc set v) = v
/-- how many sentences lead where, with how many loops -/
def ms_Wa (nx mo V : Int → Int → Int) (q l p : Int) : Nat → Int
  | 0 => 0
  | a + 1 => ms_Wa nx mo V q l p a + (if nx p a = q ∧ mo p a ≤ l then V p (l - mo p a) else 0)
def ms_Wp (L : Int) (nx mo V : Int → Int → Int) (q l : Int) : Nat → Int
  | 0 => 0
  | p + 1 => ms_Wp L nx mo V q l p + ms_Wa nx mo V q l p L.toNat
def ms_W (L P : Int) (nx mo : Int → Int → Int) : Nat → Int → Int → Int
  | 0 => fun q l => if q = 0 ∧ l = 0 then 1 else 0
  | n + 1 => fun q l => ms_Wp L nx mo (ms_W L P nx mo n) q l P.toNat % 998244353
def ic_Y (h : Int) (mk : Int → Int → Int) (frm i : Int) (S : Int → Int → Int) (σ : ml_St) : Prop := mt_bf h (σ 55 1) (fun a => mk (σ 56 a)) S (fun p a => σ 58 (6 * p + a)) (σ 55 2) frm i ∧ (∀ p a, 0 ≤ p → 0 ≤ a → a < σ 55 1 → mt_bl p a frm i → σ 59 (6 * p + a) = min 3 (mt_both h (mq_w (S p)) (mk (σ 56 a)) 20)) ∧ (∀ p e, 0 ≤ p → p < σ 55 2 → 0 ≤ e → e < 2 * h → σ 61 (10 * p + e) = S p e) ∧ (∀ q, 1 ≤ q → q < σ 55 2 → σ 57 (mt_num h (S q)) = q) ∧ ∀ x, 0 ≤ x → x < 945 → σ 57 x ≠ -1 → (mt_num h (S (σ 57 x)) : Int) = x
def ic_W (σ : ml_St) : Prop := ∀ p l, 0 ≤ p → p < σ 55 2 → 0 ≤ l → l < 3 → σ 62 (3 * p + l) = ms_W (σ 55 1) (σ 55 2) (fun p a => σ 58 (6 * p + a)) (fun p a => σ 59 (6 * p + a)) (σ 55 11).toNat p l
def ic_X (h told : Int) (mk : Int → Int → Int) (σ : ml_St) : Prop := ic_L (σ 55 0) told (σ 55 1) (σ 56) ∧ (∃ S, ic_Y h mk (σ 55 2) 0 S σ) ∧ ic_W σ
def ic_S (h told : Int) (mk : Int → Int → Int) (σ : ml_St) : Prop := σ 55 0 = 0 ∨ (1 ≤ told ∧ ic_G h told σ ∧ ic_X h told mk σ)
def IC (h told ts cap : Int) (tb cl pr sz : Int → Int) (T : Int → Int → Int) (σ : ml_St) : Prop := ic_A h told σ ∧ ic_B ts tb σ ∧ ic_C h cap cl σ ∧ ic_D pr σ ∧ ic_E h told T sz σ ∧ ic_R told T sz σ ∧ ic_S h told (mt_mk h T sz) σ
theorem ic_A_k {h told : Int} {σ σ' : ml_St} (e : σ' 1 = σ 1) (i : ic_A h told σ) : ic_A h told σ' := by unfold ic_A; rw [e]; exact i
theorem ic_B_k {ts : Int} {tb : Int → Int} {σ σ' : ml_St} (e : σ' 2 = σ 2) (e3 : σ' 3 = σ 3) (i : ic_B ts tb σ) : ic_B ts tb σ' := by unfold ic_B; rw [e, e3]; exact i
theorem ic_C_k {h cap : Int} {cl : Int → Int} {σ σ' : ml_St} (e : σ' 4 = σ 4) (e5 : σ' 5 = σ 5) (i : ic_C h cap cl σ) : ic_C h cap cl σ' := by unfold ic_C; rw [e, e5]; exact i
theorem ic_D_k {pr : Int → Int} {σ σ' : ml_St} (e : ∀ w, 0 ≤ w → w < 16 → σ' (119 + 6 * w) 3 = σ (119 + 6 * w) 3) (i : ic_D pr σ) : ic_D pr σ' := fun w w0 w1 => by rw [e w w0 w1]; exact i w w0 w1
theorem ic_R_k {told : Int} {T : Int → Int → Int} {sz : Int → Int} {σ σ' : ml_St} (e : ∀ w, 0 ≤ w → w < 16 → σ' (119 + 6 * w) 6 = σ (119 + 6 * w) 6 ∧ σ' (119 + 6 * w) 7 = σ (119 + 6 * w) 7 ∧ σ' (124 + 6 * w) = σ (124 + 6 * w)) (i : ic_R told T sz σ) : ic_R told T sz σ' := fun w w0 w1 => by
  obtain ⟨e1, e2, e3⟩ := e w w0 w1
  unfold ic_w1
  rw [e1, e2, e3]; exact i w w0 w1
theorem ic_T_k {h w : Int} {T : Int → Int → Int} {sz : Int → Int} {σ σ' : ml_St} (e1 : σ' (119 + 6 * w) 1 = σ (119 + 6 * w) 1) (e2 : σ' (119 + 6 * w) 2 = σ (119 + 6 * w) 2) (et : σ' (120 + 6 * w) = σ (120 + 6 * w)) (i : ic_T h T sz w σ) : ic_T h T sz w σ' := by unfold ic_T; rw [e1, e2, et]; exact i
theorem ic_S_k {h told : Int} {mk : Int → Int → Int} {σ σ' : ml_St} (e : ∀ j, 55 ≤ j → j ≤ 63 → σ' j = σ j) (i : ic_S h told mk σ) : ic_S h told mk σ' := by
  unfold ic_S ic_G ic_X ic_Y ic_W
  rw [e 55 (by omega) (by omega), e 56 (by omega) (by omega), e 57 (by omega) (by omega), e 58 (by omega) (by omega), e 59 (by omega) (by omega), e 61 (by omega) (by omega), e 62 (by omega) (by omega)]
  exact i
/-- only scratch has changed -/
def mt_kp (σ σ' : ml_St) : Prop := ∀ j, (j ≤ 5 ∨ (55 ≤ j ∧ j ≤ 63) ∨ 118 < j) → σ' j = σ j
theorem mt_kp_r {σ : ml_St} : mt_kp σ σ := fun _ _ => rfl
theorem mt_kp_t {σ σ1 σ2 : ml_St} (a : mt_kp σ σ1) (b : mt_kp σ1 σ2) : mt_kp σ σ2 := fun j hj => by rw [b j hj, a j hj]
theorem mt_kp_fr {k : Int} {σ σ' : ml_St} (h1 : 5 < k) (h2 : k + 2 < 55 ∨ (63 < k ∧ k + 2 < 119)) (f : mt_fr k σ σ') : mt_kp σ σ' := fun j hj => f j (by omega) (by omega) (by omega)
theorem IC_kp {h told ts cap : Int} {tb cl pr sz : Int → Int} {T : Int → Int → Int} {σ σ' : ml_St} (f : mt_kp σ σ') (i : IC h told ts cap tb cl pr sz T σ) : IC h told ts cap tb cl pr sz T σ' := by
  obtain ⟨a, b, c, d, e, r, s⟩ := i
  have t16 : told ≤ 16 := a.2.2.2.2.2
  refine ⟨ic_A_k (f 1 (by omega)) a, ic_B_k (f 2 (by omega)) (f 3 (by omega)) b, ic_C_k (f 4 (by omega)) (f 5 (by omega)) c, ic_D_k (fun w w0 w1 => by rw [f _ (by omega)]) d, fun w w0 w1 => ⟨ic_T_k (by rw [f _ (by omega)]) (by rw [f _ (by omega)]) (f _ (by omega)) (e w w0 w1).1, mt_wv_eq (f _ (by omega)) (f _ (by omega)) (f _ (by omega)) (e w w0 w1).2⟩, ic_R_k (fun w w0 w1 => ⟨by rw [f _ (by omega)], by rw [f _ (by omega)], f _ (by omega)⟩) r, ic_S_k (fun j h1 h2 => f j (by omega)) s⟩
theorem mt_kp_m {σ σ' : ml_St} (f : mt_kp σ σ') : ∀ j, 215 ≤ j → σ' j = σ j := fun j hj => f j (by omega)
/-- told, made, an end -/
theorem s_isTold {Q : Int → ml_St → Prop} {w told : Int} {σ : ml_St} (e : σ 1 12 = told) (k1 : 0 ≤ w → w < told → Q 1 σ) (k0 : ¬ (0 ≤ w ∧ w < told) → Q 0 σ) : f_X11_isTold σ w Q := by
  unfold f_X11_isTold f_X11_isTold_u0
  refine ⟨fun c => ?_, fun c => ?_⟩
  · unfold f_X11_isTold_u16 f_X11_isTold_u17; exact k0 (by omega)
  · rw [e]
    refine fun _ => ⟨fun d => ?_, fun d => ?_⟩
    · unfold f_X11_isTold_u16 f_X11_isTold_u17; exact k0 (by omega)
    · unfold f_X11_isTold_u17; exact k1 (by omega) (by omega)
theorem s_isTooLong9 {Q : Int → ml_St → Prop} {th : Int} {σ : ml_St} (k1 : mt_mst < σ th 5 → Q 1 σ) (k0 : σ th 5 ≤ mt_mst → Q 0 σ) : f_X9_isTooLong σ th Q := by
  unfold f_X9_isTooLong f_X9_isTooLong_u0
  refine fun _ => ⟨fun c => ?_, fun c => ?_⟩
  · unfold f_X9_isTooLong_u16; exact k0 c
  · unfold f_X9_isTooLong_u16; exact k1 (by unfold mt_mst; omega)
theorem s_isMade {Q : Int → ml_St → Prop} {w told : Int} {σ : ml_St} (t16 : told ≤ 16) (e : σ 1 12 = told) (k1 : 0 ≤ w → w < told → σ (121 + 6 * w) 5 ≤ mt_mst → Q 1 σ) (k0 : ¬ (0 ≤ w ∧ w < told ∧ σ (121 + 6 * w) 5 ≤ mt_mst) → Q 0 σ) : f_X11_isMade σ w Q := by
  unfold f_X11_isMade f_X11_isMade_u0
  refine s_isTold e (fun h0 h1 _ => ⟨fun c => absurd c (by omega), fun _ => ⟨h0, by omega, ?_⟩⟩) (fun hn _ => ⟨fun _ => ?_, fun c => absurd rfl c⟩)
  · rw [show 119 + 6 * w + 2 = 121 + 6 * w by omega]
    refine s_isTooLong9 (fun c _ => ⟨fun _ => ?_, fun d => absurd d (by omega)⟩) (fun c _ => ⟨fun d => absurd rfl d, fun _ => ?_⟩)
    · unfold f_X11_isMade_u27 f_X11_isMade_u28; exact k0 (by omega)
    · unfold f_X11_isMade_u28; exact k1 h0 h1 c
  · unfold f_X11_isMade_u27 f_X11_isMade_u28; exact k0 (fun q => hn ⟨q.1, q.2.1⟩)
theorem s_isEnd {Q : Int → ml_St → Prop} {e h : Int} {σ : ml_St} (h2 : 2 ≤ h) (h5 : h ≤ 5) (eh : σ 1 11 = h) (k1 : 0 ≤ e → e < 2 * h → Q 1 σ) (k0 : ¬ (0 ≤ e ∧ e < 2 * h) → Q 0 σ) : f_X11_isEnd σ e Q := by
  unfold f_X11_isEnd f_X11_isEnd_u0
  refine ⟨fun c => ?_, fun c => ?_⟩
  · unfold f_X11_isEnd_u18 f_X11_isEnd_u19; exact k0 (by omega)
  · rw [eh]
    refine fun _ => ⟨mt_I (by omega) (by omega), fun d => ?_, fun d => ?_⟩
    · unfold f_X11_isEnd_u18 f_X11_isEnd_u19; exact k0 (by omega)
    · unfold f_X11_isEnd_u19; exact k1 (by omega) (by omega)
/-- telling a word -/
def mt_sT (T : Int → Int → Int) (w : Int) (t : Int → Int) : Int → Int → Int := fun k => if k = w then t else T k
def mt_fl (h w n : Int) (t : Int → Int) : Int := mt_gr t n h w (n.toNat + 1) 0 0 1
theorem s_tell {Q : Int → ml_St → Prop} {h told ts cap w n : Int} {tb cl pr sz : Int → Int} {T : Int → Int → Int} {σ0 : ml_St} (i : IC h told ts cap tb cl pr sz T σ0) (w0 : 0 ≤ w) (w1 : w ≤ told) (w16 : w < 16)
    (k1 : ¬ (1 ≤ n ∧ n ≤ 100 ∧ n ≤ ts) → Q (-1) σ0)
    (k2 : 1 ≤ n → n ≤ 100 → n ≤ ts → mt_fl h w n tb ≠ 0 → ∀ σ, IC h told 0 cap tb cl pr sz T σ → (∀ j, 215 ≤ j → σ j = σ0 j) → Q (mt_fl h w n tb) σ)
    (k3 : 1 ≤ n → n ≤ 100 → n ≤ ts → mt_fl h w n tb = 0 → mt_mst < mt_wo tb n h (mt_mk h T sz) 23 → ∀ σ, IC h told 0 cap tb cl pr sz T σ → (∀ j, 215 ≤ j → σ j = σ0 j) → Q (-5000 - n) σ)
    (k4 : 1 ≤ n → n ≤ 100 → n ≤ ts → mt_fl h w n tb = 0 → mt_wo tb n h (mt_mk h T sz) 23 ≤ mt_mst → ∀ σ, IC h (max told (w + 1)) 0 cap tb cl pr (mt_st sz w n) (mt_sT T w tb) σ → (∀ j, 215 ≤ j → σ j = σ0 j) → Q w σ) : f_X11_tell σ0 w n Q := by
  obtain ⟨a, b, c, d, e, r, s⟩ := i
  obtain ⟨a1, a2, h2, h5, t0, t16⟩ := a
  obtain ⟨b1, b2, b3, b4⟩ := b
  unfold f_X11_tell f_X11_tell_u0
  rw [b1]
  refine ⟨fun q => ?_, fun q => ⟨fun q2 => ?_, fun q2 _ => ⟨fun q3 => ⟨n.toNat + 1, ?_⟩, fun q3 => ?_⟩⟩⟩
  · unfold f_X11_tell_u22; exact k1 (by omega)
  · unfold f_X11_tell_u22; exact k1 (by omega)
  · have n1 : 1 ≤ n := by omega
    have n100 : n ≤ 100 := by omega
    have k2 := k2 n1 n100 q3
    have k3 := k3 n1 n100 q3
    have k4 := k4 n1 n100 q3
    -- the draft
    have L : ∀ (N : Nat) (x : Int) (σ : ml_St), 0 ≤ x → x ≤ n → n - x < N → (∀ j, j ≠ 115 → σ j = σ0 j) → (∀ j, 0 ≤ j → j < x → σ 115 j = tb j) → (∀ σ, (∀ j, j ≠ 115 → σ j = σ0 j) → mt_teq n (σ 115) tb → f_X11_tell_u53 Q σ w n) → f_X11_tell_u26 Q (f_X11_tell_u53 Q) N σ w n x := by
      intro N
      induction N with
      | zero => intro x σ _ _ hN; omega
      | succ N ih =>
        intro x σ x0 x1 hN f ft kk
        unfold f_X11_tell_u26
        refine ⟨fun c1 => kk σ f (fun j j0 j1 => ft j j0 (by omega)), fun c1 => ⟨x0, by omega, fun _ => ⟨x0, by omega, fun σ3 s3 => ⟨mt_I (by omega) (by omega), fun y4 e4 => ?_⟩⟩⟩⟩
        subst e4
        refine ih (x + 1) σ3 (by omega) (by omega) (by omega) (fun j hj => by rw [s3, ml_up_k hj, f j hj]) (fun j j0 j1 => ?_) kk
        rw [s3]
        by_cases z : j = x
        · rw [z, ml_up_same, f 3 (by omega)]; exact (b4 x x0 (by omega)).2.2
        · rw [ml_up_i z]; exact ft j j0 (by omega)
    refine L _ 0 σ0 (by omega) (by omega) (by omega) (fun _ _ => rfl) (fun j j0 j1 => absurd j1 (by omega)) (fun σ1 f1 et => ?_)
    unfold f_X11_tell_u53
    intro σ2 g2
    have f2 : ∀ j, j ≠ 115 → j ≠ 2 → σ2 j = σ0 j := fun j h1 h3 => by rw [g2, ml_up_k h3, f1 j h1]
    have e115 : σ2 115 = σ1 115 := by rw [g2, ml_up_k (by omega)]
    have e2 : σ2 2 1 = 0 := by rw [g2, ml_up_same]
    rw [f2 1 (by omega) (by omega), a1]
    have tI : ∀ j, 0 ≤ j → j < n → ml_I8 (tb j) := fun j j0 j1 => by
      rw [← (b4 j j0 (by omega)).2.2]
      unfold b_i2b
      generalize (Int32.ofInt (σ0 3 j)).toInt8 = z
      exact ⟨by have := Int8.le_toInt z; omega, by have := Int8.toInt_lt z; omega⟩
    have eg : mt_gr (σ2 115) n h w (n.toNat + 1) 0 0 1 = mt_fl h w n tb := by rw [e115]; exact mt_gr_t et _ _ _ _ (Int.le_refl 0)
    -- IC with an empty tape holds in any store that differs in scratch alone
    have emp : ∀ σ, (∀ j, (j = 1 ∨ j = 3 ∨ j = 4 ∨ j = 5 ∨ (55 ≤ j ∧ j ≤ 63) ∨ (118 < j)) → σ j = σ0 j) → σ 2 1 = 0 → IC h told 0 cap tb cl pr sz T σ := by
      intro σ f z
      refine ⟨ic_A_k (f 1 (by omega)) ⟨a1, a2, h2, h5, t0, t16⟩, ⟨z, by omega, by omega, fun i i0 i1 => absurd i1 (by omega)⟩, ic_C_k (f 4 (by omega)) (f 5 (by omega)) c, ic_D_k (fun w w0 w1 => by rw [f _ (by omega)]) d, fun w w0 w1 => ⟨ic_T_k (by rw [f _ (by omega)]) (by rw [f _ (by omega)]) (f _ (by omega)) (e w w0 w1).1, mt_wv_eq (f _ (by omega)) (f _ (by omega)) (f _ (by omega)) (e w w0 w1).2⟩, ic_R_k (fun w w0 w1 => ⟨by rw [f _ (by omega)], by rw [f _ (by omega)], f _ (by omega)⟩) r, ic_S_k (fun j h1 h2 => f j (by omega)) s⟩
    refine fun _ => s_faultIn mt_tx115 (by omega) (by omega) n100 h2 h5 w0 (by omega) (fun j j0 j1 => by rw [e115, et j j0 j1]; exact tI j j0 j1) (fun σ3 f3 => ?_)
    rw [eg]
    have f3' : ∀ j, j ≠ 115 → j ≠ 2 → j ≠ 6 → σ3 j = σ0 j := fun j h1 h3 h4 => by rw [f3 j h4, f2 j h1 h3]
    refine fun _ => ⟨fun z => ?_, fun z => ?_⟩
    · rw [f3' 1 (by omega) (by omega) (by omega), a1]
      have e115' : σ3 115 = σ1 115 := by rw [f3 115 (by omega), e115]
      have g3 : mt_gr (σ3 115) n h w (n.toNat + 1) 0 0 1 = 0 := by rw [e115']; rw [mt_gr_t et _ _ _ _ (Int.le_refl 0)]; exact z
      have hM : ∀ u, 0 ≤ u → u < told → mt_M h (mt_mk h T sz u) := fun u u0 u1 => by
        have := (mt_mk_ok (T := T) (sz := sz) h5 u.toNat (by omega) (fun x hx => (e x (by omega) (by omega)).1.1)).1
        rw [show ((u.toNat : Nat) : Int) = u by omega] at this
        exact this
      refine fun _ => s_weave (w := w) (mk := mt_mk h T sz) mt_tx115 (by omega) (by omega) (by omega) n100 h2 h5 w0 (by omega) g3 (fun v v0 v1 => ⟨mt_wv_eq (f3' _ (by omega) (by omega) (by omega)) (f3' _ (by omega) (by omega) (by omega)) (f3' _ (by omega) (by omega) (by omega)) (e v v0 (by omega)).2, hM v v0 (by omega)⟩) (fun σ6 f6 w6 _ => ?_)
      have ew : mt_wo (σ3 115) n h (mt_mk h T sz) = mt_wo tb n h (mt_mk h T sz) := by
        rw [e115']
        exact mt_we_t (w := w) (by omega) et (fun _ _ _ => rfl) _ _ _ 1 _ (Int.le_refl 0) (by omega) (by rw [← e115']; exact g3)
      rw [ew] at w6
      have f6' : ∀ j, (j = 1 ∨ j = 3 ∨ j = 4 ∨ j = 5 ∨ (55 ≤ j ∧ j ≤ 63) ∨ (118 < j)) → σ6 j = σ0 j := fun j hj => by rw [f6 j (by omega) (by omega) (by omega) (by omega) (by omega), f3' j (by omega) (by omega) (by omega)]
      have z6 : σ6 2 1 = 0 := by rw [f6 2 (by omega) (by omega) (by omega) (by omega) (by omega), f3 2 (by omega), e2]
      refine s_isTooLong9 (fun c1 _ => ⟨fun c2 => absurd c2 (by omega), fun _ => ?_⟩) (fun c1 _ => ⟨fun _ => ⟨w0, w16, ?_⟩, fun c2 => absurd rfl c2⟩)
      · rw [w6.2.2.2.2.1] at c1
        refine s_faultAt ⟨by omega, by omega⟩ ⟨by omega, by omega⟩ (fun _ _ => ?_)
        rw [show -1000 * 5 - n = -5000 - n by omega]
        exact k3 z c1 σ6 (emp σ6 f6' z6) (fun j hj => f6' j (by omega))
      · rw [w6.2.2.2.2.1] at c1
        have e6 : σ6 115 = σ1 115 := by rw [f6 115 (by omega) (by omega) (by omega) (by omega) (by omega), e115']
        refine s_setText (by omega) (by omega) n100 (fun σ10 f10 fb10 s10 t10 p10 => ?_)
        have e10 : σ10 1 = σ0 1 := by rw [f10 1 (by omega) (by omega), f6' 1 (by omega)]
        rw [e10, a2]
        refine fun _ => ⟨mt_I (by omega) (by omega), fun σ13 g13 => ?_⟩
        have k13 : ∀ j, j ≠ 1 → σ13 j = σ10 j := fun j hj => by rw [g13, ml_up_k hj]
        have a13 : ic_A h (max told (w + 1)) σ13 := ⟨by rw [g13, ml_up_i (by omega), e10, a1], by rw [g13, ml_up_same], h2, h5, by omega, by omega⟩
        have et10 : mt_teq n (σ10 (119 + 6 * w + 1)) tb := fun j j0 j1 => by rw [t10 j j0 j1, e6, et j j0 j1]
        have gw : mt_good h w tb n := ⟨n1, n100, tI, z⟩
        have epl : mt_pl (σ6 115) n.toNat = mt_pl tb n.toNat := mt_pl_c _ (fun x hx => by rw [e6]; exact et x (by omega) (by omega))
        have old : ∀ v, 0 ≤ v → v < 16 → v ≠ w → ∀ q, q = 119 + 6 * v ∨ q = 120 + 6 * v ∨ q = 121 + 6 * v ∨ q = 122 + 6 * v ∨ q = 123 + 6 * v → σ13 q = σ0 q := fun v v0 v1 vw q hq => by rw [k13 q (by omega), f10 q (by omega) (by omega), f6' q (by omega)]
        have ne : ∀ v, v ≠ w → mt_sT T w tb v = T v ∧ mt_st sz w n v = sz v := fun v hv => ⟨if_neg hv, if_neg hv⟩
        have sw : mt_sT T w tb w = tb ∧ mt_st sz w n w = n := ⟨if_pos rfl, if_pos rfl⟩
        have tx13 : ∀ v, 0 ≤ v → v < max told (w + 1) → ic_T h (mt_sT T w tb) (mt_st sz w n) v σ13 := by
          intro v v0 v1
          by_cases q : v = w
          · subst q
            unfold ic_T
            rw [sw.1, sw.2, k13 _ (by omega), k13 _ (by omega), s10, p10, epl]
            rw [show 120 + 6 * v = 119 + 6 * v + 1 by omega]
            exact ⟨gw, rfl, et10, rfl⟩
          · have := (e v v0 (by omega)).1
            unfold ic_T at this ⊢
            rw [(ne v q).1, (ne v q).2, old v v0 (by omega) q _ (Or.inl rfl), old v v0 (by omega) q _ (Or.inr (Or.inl rfl))]
            exact this
        have mk_lo : ∀ v, 0 ≤ v → v < w → mt_mk h (mt_sT T w tb) (mt_st sz w n) v = mt_mk h T sz v := by
          intro v v0 v1
          have := mt_mk_c (h := h) (T := mt_sT T w tb) (T' := T) (sz := mt_st sz w n) (sz' := sz) (w := v.toNat) (by omega) (fun u hu => ne u (by omega))
          rw [show ((v.toNat : Nat) : Int) = v by omega] at this
          exact this
        refine s_weaveFrom a13 w0 (by omega) tx13 (fun v v0 v1 => ?_) (fun σ14 f14 fb14 z14 wv14 fz14 => ?_)
        · rw [mk_lo v v0 v1]
          exact mt_wv_eq (old v v0 (by omega) (by omega) _ (by omega)) (old v v0 (by omega) (by omega) _ (by omega)) (old v v0 (by omega) (by omega) _ (by omega)) (e v v0 (by omega)).2
        · have f14' : ∀ j, j ≠ 9 → j ≠ 55 → (j < 13 ∨ 45 < j) → j < 119 → σ14 j = σ13 j := fun j h1 h3 h4 h6 => f14 j h1 h3 h4 (fun v _ _ => ⟨by omega, by omega, by omega, by omega⟩)
          have fld : ∀ v b, 0 ≤ v → v < 16 → b ≠ 1 → b ≠ 2 → b ≠ 7 → σ14 (119 + 6 * v) b = σ0 (119 + 6 * v) b := by
            intro v b v0 v1 c1 c2 c7
            rw [fb14 v b v0 v1 c7, k13 _ (by omega)]
            by_cases q : v = w
            · subst q; rw [fb10 b c1 c2, f6' _ (by omega)]
            · rw [f10 _ (by omega) (by omega), f6' _ (by omega)]
          refine k4 z c1 σ14 ⟨ic_A_k (f14' 1 (by omega) (by omega) (by omega) (by omega)) a13, ⟨?_, by omega, by omega, fun i i0 i1 => absurd i1 (by omega)⟩, ?_, ic_D_k (fun v v0 v1 => fld v 3 v0 v1 (by omega) (by omega) (by omega)) d, fun v v0 v1 => ⟨?_, wv14 v v0 v1⟩, fun v v0 v1 => ⟨?_, fun vt vz => ?_⟩, Or.inl z14⟩ (fun j hj => ?_)
          · rw [f14' 2 (by omega) (by omega) (by omega) (by omega), k13 2 (by omega), f10 2 (by omega) (by omega), z6]
          · refine ic_C_k ?_ ?_ c
            · rw [f14' 4 (by omega) (by omega) (by omega) (by omega), k13 4 (by omega), f10 4 (by omega) (by omega), f6' 4 (by omega)]
            · rw [f14' 5 (by omega) (by omega) (by omega) (by omega), k13 5 (by omega), f10 5 (by omega) (by omega), f6' 5 (by omega)]
          · refine ic_T_k (fb14 v 1 v0 (by omega) (by omega)) (fb14 v 2 v0 (by omega) (by omega)) (f14 _ (by omega) (by omega) (by omega) (fun u _ _ => ⟨by omega, by omega, by omega, by omega⟩)) (tx13 v v0 v1)
          · rw [fld v 6 v0 v1 (by omega) (by omega) (by omega)]; exact (r v v0 v1).1
          · have vw : v < w := by
              rcases Int.lt_or_le v w with q | q
              · exact q
              · exact absurd (fz14 v q vt) vz
            have lo14 : ∀ j, (j = 119 + 6 * v ∨ j = 124 + 6 * v) → σ14 j = σ0 j := fun j hj => by
              rw [f14 j (by omega) (by omega) (by omega) (fun u _ _ => ⟨by omega, by omega, by omega, by omega⟩), k13 j (by omega), f10 j (by omega) (by omega), f6' j (by omega)]
            have rr := (r v v0 v1).2 (by omega) (by rw [← lo14 _ (Or.inl rfl)]; exact vz)
            have ec := mt_ex_c (T := mt_sT T w tb) (T' := T) (sz := mt_st sz w n) (sz' := sz) (w := v.toNat) (by omega) (fun u hu => ne u (by omega))
            rw [show ((v.toNat : Nat) : Int) = v by omega] at ec
            unfold ic_w1 at *
            rw [lo14 _ (Or.inl rfl), lo14 _ (Or.inr rfl), ec.1, ec.2]; exact rr
          · rw [f14 j (by omega) (by omega) (by omega) (fun v _ _ => ⟨by omega, by omega, by omega, by omega⟩), k13 j (by omega), f10 j (by omega) (by omega), f6' j (by omega)]
    · refine k2 z σ3 (emp σ3 (fun j hj => f3' j (by omega) (by omega) (by omega)) (by rw [f3 2 (by omega), e2])) (fun j hj => f3' j (by omega) (by omega) (by omega))
  · unfold f_X11_tell_u22; exact k1 (by omega)
