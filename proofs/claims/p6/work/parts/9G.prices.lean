/-! the model: prices, best, cheapest -/
def mq_sm (g : Int → Int) : Nat → Int
  | 0 => 0
  | n + 1 => mq_sm g n + g n
theorem mq_sm_e {g g' : Int → Int} : ∀ n : Nat, (∀ i : Int, 0 ≤ i → i < n → g' i = g i) → mq_sm g' n = mq_sm g n := by
  intro n
  induction n with
  | zero => intro _; rfl
  | succ n ih =>
    intro h
    unfold mq_sm
    rw [ih (fun i i0 i1 => h i i0 (by omega)), h n (by omega) (by omega)]
theorem mq_sm_u {g g' : Int → Int} {s : Int} (s0 : 0 ≤ s) : ∀ n : Nat, s < n → (∀ i : Int, i ≠ s → g' i = g i) → mq_sm g' n = mq_sm g n + g' s - g s := by
  intro n
  induction n with
  | zero => intro h _; omega
  | succ n ih =>
    intro h e
    unfold mq_sm
    by_cases q : s = n
    · rw [mq_sm_e n (fun i i0 i1 => e i (by omega)), ← q]; omega
    · rw [ih (by omega) e, e n (by omega)]; omega
theorem mq_sm_b {g : Int → Int} {m : Int} (h : ∀ i, 0 ≤ g i ∧ g i ≤ m) : ∀ n : Nat, 0 ≤ mq_sm g n ∧ mq_sm g n ≤ m * n := by
  intro n
  induction n with
  | zero => exact ⟨by show (0:Int) ≤ 0; omega, by show (0:Int) ≤ m * ((0:Nat):Int); simp⟩
  | succ n ih =>
    have := h n
    unfold mq_sm
    have e : m * ((n + 1 : Nat) : Int) = m * n + m := by rw [Int.natCast_add, Int.mul_add]; simp
    omega
def mq_ct (p : Int → Int) (i : Int) : Int := if p i = -1 then 0 else 1
def mq_mu (p st : Int → Int) (i : Int) : Int := if p i = -1 then 1000000000000 else p i * 1000000 + st i
/-- prices p and steps st from the states to t, over what joins them -/
def mq_at (nx : Int → Int → Int) (co p st : Int → Int) (s l : Int) : Prop := p (nx s l) ≠ -1 ∧ (p (nx s l) + co l < p s ∨ (p (nx s l) + co l = p s ∧ st (nx s l) + 1 ≤ st s))
def mq_P (c : Nat) (nl t : Int) (nx : Int → Int → Int) (co p st : Int → Int) : Prop := p t = 0 ∧ st t = 0 ∧ (∀ s : Int, 0 ≤ s → s < c → p s = -1 ∨ (0 ≤ p s ∧ p s ≤ 1000 * (mq_sm (mq_ct p) c - 1) ∧ 0 ≤ st s ∧ st s ≤ p s)) ∧ ∀ s : Int, 0 ≤ s → s < c → s ≠ t → p s ≠ -1 → ∃ l, 0 ≤ l ∧ l < nl ∧ mq_at nx co p st s l
theorem mq_P_b {c : Nat} {nl t : Int} {nx : Int → Int → Int} {co p st : Int → Int} (c1 : c ≤ 945) (P : mq_P c nl t nx co p st) {s : Int} (s0 : 0 ≤ s) (s1 : s < c) (n : p s ≠ -1) : 0 ≤ p s ∧ p s ≤ 944000 ∧ 0 ≤ st s ∧ st s ≤ p s := by
  have b := mq_sm_b (g := mq_ct p) (m := 1) (fun i => by unfold mq_ct; split <;> omega) c
  have := (P.2.2.1 s s0 s1).resolve_left n
  omega
theorem mq_P_set {c : Nat} {nl t s l : Int} {nx : Int → Int → Int} {co p st p' st' : Int → Int} (c1 : c ≤ 945) (P : mq_P c nl t nx co p st) (s0 : 0 ≤ s) (s1 : s < c) (l0 : 0 ≤ l) (l1 : l < nl) (st0 : s ≠ t) (n0 : 0 ≤ nx s l) (n1 : nx s l < c) (c0 : 1 ≤ co l) (c2 : co l ≤ 1000) (np : p (nx s l) ≠ -1) (im : p s = -1 ∨ p (nx s l) + co l < p s ∨ (p (nx s l) + co l = p s ∧ st (nx s l) + 1 < st s)) (ep : p' s = p (nx s l) + co l) (es : st' s = st (nx s l) + 1) (ep' : ∀ i, i ≠ s → p' i = p i) (es' : ∀ i, i ≠ s → st' i = st i) : mq_P c nl t nx co p' st' ∧ mq_sm (mq_mu p' st') c < mq_sm (mq_mu p st) c := by
  have B := fun (x : Int) (h0 : 0 ≤ x) (h1 : x < c) h2 => mq_P_b (s := x) c1 P h0 h1 h2
  obtain ⟨P1, P2, P3, P4⟩ := id P
  have b1 := B _ n0 n1 np
  have q := (P3 _ n0 n1).resolve_left np
  have ect : mq_sm (mq_ct p') c = mq_sm (mq_ct p) c + 1 - mq_ct p s := by
    rw [mq_sm_u s0 c s1 (g := mq_ct p) (g' := mq_ct p') (fun i hi => by unfold mq_ct; rw [ep' i hi])]
    have : mq_ct p' s = 1 := by unfold mq_ct; rw [if_neg (by omega)]
    omega
  have cge : mq_ct p s = 0 ∨ (mq_ct p s = 1 ∧ p s ≠ -1) := by
    unfold mq_ct
    by_cases z : p s = -1
    · rw [if_pos z]; exact Or.inl rfl
    · rw [if_neg z]; exact Or.inr ⟨rfl, z⟩
  -- pairs fall
  have fall : ∀ x : Int, 0 ≤ x → x < c → p x ≠ -1 → p' x ≠ -1 ∧ (p' x < p x ∨ (p' x = p x ∧ st' x ≤ st x)) := fun x x0 x1 hx => by
    by_cases z : x = s
    · subst z
      refine ⟨by omega, ?_⟩
      omega
    · rw [ep' x z, es' x z]; exact ⟨hx, Or.inr ⟨rfl, by omega⟩⟩
  refine ⟨⟨by rw [ep' t (by omega)]; exact P1, by rw [es' t (by omega)]; exact P2, fun x x0 x1 => ?_, fun x x0 x1 xt hx => ?_⟩, ?_⟩
  · by_cases z : x = s
    · subst z
      rw [ep, es, ect]
      refine Or.inr ?_
      rcases cge with g | ⟨g, g2⟩
      · omega
      · have := (P3 x x0 x1).resolve_left g2; omega
    · rw [ep' x z, es' x z, ect]
      rcases P3 x x0 x1 with g | g
      · exact Or.inl g
      · right; omega
  · by_cases z : x = s
    · subst z
      refine ⟨l, l0, l1, ?_⟩
      obtain ⟨f1, f2⟩ := fall _ n0 n1 np
      unfold mq_at
      rw [ep, es]
      exact ⟨f1, by omega⟩
    · rw [ep' x z] at hx
      obtain ⟨l', l0', l1', a1, a2⟩ := P4 x x0 x1 xt hx
      refine ⟨l', l0', l1', ?_⟩
      unfold mq_at
      rw [ep' x z, es' x z]
      by_cases w : nx x l' = s
      · have b := fall s s0 s1 (by rw [← w]; exact a1)
        rw [w] at a2 ⊢
        exact ⟨b.1, by omega⟩
      · rw [ep' _ w, es' _ w]; exact ⟨a1, a2⟩
  · rw [mq_sm_u s0 c s1 (g := mq_mu p st) (g' := mq_mu p' st') (fun i hi => by unfold mq_mu; rw [ep' i hi, es' i hi])]
    have e1 : mq_mu p' st' s = (p (nx s l) + co l) * 1000000 + (st (nx s l) + 1) := by unfold mq_mu; rw [if_neg (by omega), ep, es]
    have e2 : mq_mu p' st' s < mq_mu p st s := by
      rw [e1]
      unfold mq_mu
      by_cases z : p s = -1
      · rw [if_pos z]; omega
      · rw [if_neg z]
        have := B s s0 s1 z
        omega
    omega
/-- nothing is better by letter l -/
def mq_o (nx : Int → Int → Int) (co p st : Int → Int) (s l : Int) : Prop := p (nx s l) ≠ -1 → p s ≠ -1 ∧ (p s < p (nx s l) + co l ∨ (p s = p (nx s l) + co l ∧ st s ≤ st (nx s l) + 1))
def mq_x (σ : ml_St) (s l : Int) : Int := σ 240 (6 * s + l)
def mq_c (σ : ml_St) (l : Int) : Int := σ 220 (σ 237 l)
theorem mq_c_r {h told ts cap nl : Int} {tb cl pr sz : Int → Int} {T : Int → Int → Int} {τ0 σ : ml_St} {F : Nat → Int → Int} {c : Nat} (J : mq_J h told ts cap tb cl pr sz T τ0 nl F c σ) {l : Int} (l0 : 0 ≤ l) (l1 : l < nl) : 1 ≤ mq_c σ l ∧ mq_c σ l ≤ 1000 := by
  obtain ⟨b1, b2, b3, b4, b5, b6, b7⟩ := mq_J_b J
  have w := b7 l l0 l1
  have d := J.1.1.2.2.2.1 (σ 237 l) (by omega) (by omega)
  unfold mq_c; omega
def mq_JF (h told ts cap : Int) (tb cl pr sz : Int → Int) (T : Int → Int → Int) (τ0 : ml_St) (nl : Int) (F : Nat → Int → Int) (c : Nat) (σ0 σ : ml_St) : Prop := mq_J h told ts cap tb cl pr sz T τ0 nl F c σ ∧ ∀ j, j ≠ 250 → j ≠ 251 → σ j = σ0 j
theorem s_prices {K : ml_St → Prop} {h told ts cap nl t : Int} {tb cl pr sz : Int → Int} {T : Int → Int → Int} {τ0 σ0 : ml_St} {F : Nat → Int → Int} {c : Nat} (J0 : mq_J h told ts cap tb cl pr sz T τ0 nl F c σ0) (t0 : 0 ≤ t) (t1 : t < c) (k : ∀ σ, mq_J h told ts cap tb cl pr sz T τ0 nl F c σ → (∀ j, j ≠ 250 → j ≠ 251 → σ j = σ0 j) → mq_P c nl t (mq_x σ) (mq_c σ) (σ 250) (σ 251) → (∀ s l : Int, 0 ≤ s → s < c → s ≠ t → 0 ≤ l → l < nl → mq_o (mq_x σ) (mq_c σ) (σ 250) (σ 251) s l) → K σ) : f_X12_prices σ0 t K := by
  have b2 := (mq_J_b J0).2.1
  have JK : ∀ (σ σ' : ml_St), (∀ j, j ≠ 250 → j ≠ 251 → σ' j = σ j) → mq_JF h told ts cap tb cl pr sz T τ0 nl F c σ0 σ → mq_JF h told ts cap tb cl pr sz T τ0 nl F c σ0 σ' := fun σ σ' f J => ⟨mq_J_k (fun j h1 h2 => f j (by omega) (by omega)) (fun b _ => by rw [f 215 (by omega) (by omega)]) J.1, fun j h1 h2 => by rw [f j h1 h2, J.2 j h1 h2]⟩
  have XK : ∀ (σ σ' : ml_St), (∀ j, j ≠ 250 → j ≠ 251 → σ' j = σ j) → mq_x σ' = mq_x σ ∧ mq_c σ' = mq_c σ := fun σ σ' f => by
    constructor
    · funext s l; unfold mq_x; rw [f 240 (by omega) (by omega)]
    · funext l; unfold mq_c; rw [f 220 (by omega) (by omega), f 237 (by omega) (by omega)]
  -- rounds
  have R : ∀ (N : Nat) (ch : Int) (σ : ml_St), mq_sm (mq_mu (σ 250) (σ 251)) c + 1 < N → (ch = 0 ∨ ch = 1) → mq_JF h told ts cap tb cl pr sz T τ0 nl F c σ0 σ → mq_P c nl t (mq_x σ) (mq_c σ) (σ 250) (σ 251) → (ch = 0 → ∀ s l : Int, 0 ≤ s → s < c → s ≠ t → 0 ≤ l → l < nl → mq_o (mq_x σ) (mq_c σ) (σ 250) (σ 251) s l) → f_X12_prices_u41 K (f_X12_prices_u214 K) N σ t ch := by
    intro N
    induction N with
    | zero =>
      intro ch σ hN _ J P
      have b : ∀ n : Nat, n ≤ c → 0 ≤ mq_sm (mq_mu (σ 250) (σ 251)) n := by
        intro n
        induction n with
        | zero => intro _; show (0 : Int) ≤ 0; omega
        | succ n ihn =>
          intro hn
          have i1 := ihn (by omega)
          unfold mq_sm
          have : 0 ≤ mq_mu (σ 250) (σ 251) n := by
            unfold mq_mu
            by_cases z : σ 250 (n : Int) = -1
            · rw [if_pos z]; omega
            · rw [if_neg z]
              have := mq_P_b b2 P (s := n) (by omega) (by omega) z
              omega
          omega
      have := b c (Nat.le_refl c)
      omega
    | succ N ih =>
      intro ch σs hN hch Js Ps hok
      unfold f_X12_prices_u41
      refine ⟨fun z => ?_, fun z => ⟨c + 1, ?_⟩⟩
      · unfold f_X12_prices_u214; exact k σs Js.1 Js.2 Ps (hok z)
      -- states
      have ST : ∀ (M : Nat) (s d : Int) (σ : ml_St), 0 ≤ s → s ≤ c → c - s < M → mq_JF h told ts cap tb cl pr sz T τ0 nl F c σ0 σ → mq_P c nl t (mq_x σ) (mq_c σ) (σ 250) (σ 251) → ((d = 1 ∧ mq_sm (mq_mu (σ 250) (σ 251)) c < mq_sm (mq_mu (σs 250) (σs 251)) c) ∨ (d = 0 ∧ ∀ s' l : Int, 0 ≤ s' → s' < s → s' ≠ t → 0 ≤ l → l < nl → mq_o (mq_x σ) (mq_c σ) (σ 250) (σ 251) s' l)) → f_X12_prices_u49 K (f_X12_prices_u211 K (f_X12_prices_u41 K (f_X12_prices_u214 K) N)) M σ t d s ∨ (d = 0 ∧ mq_sm (mq_mu (σ 250) (σ 251)) c ≠ mq_sm (mq_mu (σs 250) (σs 251)) c) := by
        intro M
        induction M with
        | zero => intro s d σ s0 s1 hM; omega
        | succ M ihs =>
          intro s d σ s0 s1 hM J P D
          by_cases eqm : d = 0 ∧ mq_sm (mq_mu (σ 250) (σ 251)) c ≠ mq_sm (mq_mu (σs 250) (σs 251)) c
          · exact Or.inr eqm
          refine Or.inl ?_
          obtain ⟨b1, -, b3, b4, b5, b6, b7⟩ := mq_J_b J.1
          unfold f_X12_prices_u49
          rw [b1]
          refine fun _ => ⟨fun q => ?_, fun q => ⟨7, ?_⟩⟩
          · unfold f_X12_prices_u211
            rcases D with ⟨d1, d2⟩ | ⟨d1, d2⟩
            · subst d1
              exact ih 1 σ (by omega) (Or.inr rfl) J P (fun z => absurd z (by omega))
            · subst d1
              have same : mq_sm (mq_mu (σ 250) (σ 251)) c = mq_sm (mq_mu (σs 250) (σs 251)) c := by
                by_cases w : mq_sm (mq_mu (σ 250) (σ 251)) c = mq_sm (mq_mu (σs 250) (σs 251)) c
                · exact w
                · exact absurd ⟨rfl, w⟩ eqm
              have N1 : 1 ≤ N := by
                have b : 0 ≤ mq_sm (mq_mu (σ 250) (σ 251)) c := by
                  have b : ∀ n : Nat, n ≤ c → 0 ≤ mq_sm (mq_mu (σ 250) (σ 251)) n := by
                    intro n
                    induction n with
                    | zero => intro _; show (0 : Int) ≤ 0; omega
                    | succ n ihn =>
                      intro hn
                      have i1 := ihn (by omega)
                      unfold mq_sm
                      have : 0 ≤ mq_mu (σ 250) (σ 251) n := by
                        unfold mq_mu
                        by_cases z : σ 250 (n : Int) = -1
                        · rw [if_pos z]; omega
                        · rw [if_neg z]
                          have := mq_P_b b2 P (s := n) (by omega) (by omega) z
                          omega
                      omega
                  exact b c (Nat.le_refl c)
                omega
              obtain ⟨N', rfl⟩ : ∃ N', N = N' + 1 := ⟨N - 1, by omega⟩
              unfold f_X12_prices_u41
              refine ⟨fun _ => ?_, fun z => absurd rfl z⟩
              unfold f_X12_prices_u214
              exact k σ J.1 J.2 P (fun s' l a b e f g => d2 s' l a (by omega) e f g)
          -- letters
          have LT : ∀ (M' : Nat) (l d : Int) (σ : ml_St), 0 ≤ l → l ≤ nl → nl - l < M' → mq_JF h told ts cap tb cl pr sz T τ0 nl F c σ0 σ → mq_P c nl t (mq_x σ) (mq_c σ) (σ 250) (σ 251) → ((d = 1 ∧ mq_sm (mq_mu (σ 250) (σ 251)) c < mq_sm (mq_mu (σs 250) (σs 251)) c) ∨ (d = 0 ∧ mq_sm (mq_mu (σ 250) (σ 251)) c = mq_sm (mq_mu (σs 250) (σs 251)) c ∧ (∀ s' l : Int, 0 ≤ s' → s' < s → s' ≠ t → 0 ≤ l → l < nl → mq_o (mq_x σ) (mq_c σ) (σ 250) (σ 251) s' l) ∧ ∀ l', 0 ≤ l' → l' < l → s ≠ t → mq_o (mq_x σ) (mq_c σ) (σ 250) (σ 251) s l')) → f_X12_prices_u60 K (f_X12_prices_u205 K (f_X12_prices_u49 K (f_X12_prices_u211 K (f_X12_prices_u41 K (f_X12_prices_u214 K) N)) M)) M' σ t d s l := by
            intro M'
            induction M' with
            | zero => intro l d σ l0 l1 hM'; omega
            | succ M' ihl =>
              intro l d σ l0 l1 hM' J P D
              obtain ⟨b1, -, b3, b4, b5, b6, b7⟩ := mq_J_b J.1
              have OUT : (l = nl ∨ s = t) → f_X12_prices_u205 K (f_X12_prices_u49 K (f_X12_prices_u211 K (f_X12_prices_u41 K (f_X12_prices_u214 K) N)) M) σ t d s := fun hl => by
                unfold f_X12_prices_u205
                refine ⟨mt_I (by omega) (by omega), fun y e => ?_⟩
                subst e
                have D' : (d = 1 ∧ mq_sm (mq_mu (σ 250) (σ 251)) c < mq_sm (mq_mu (σs 250) (σs 251)) c) ∨ (d = 0 ∧ ∀ s' l : Int, 0 ≤ s' → s' < s + 1 → s' ≠ t → 0 ≤ l → l < nl → mq_o (mq_x σ) (mq_c σ) (σ 250) (σ 251) s' l) := by
                  rcases D with D | ⟨d1, d2, d3, d4⟩
                  · exact Or.inl D
                  · refine Or.inr ⟨d1, fun s' l' a b e f g => ?_⟩
                    by_cases z : s' = s
                    · subst z
                      rcases hl with hl | hl
                      · exact d4 l' f (by omega) e
                      · exact absurd hl e
                    · exact d3 s' l' a (by omega) e f g
                rcases ihs (s + 1) d σ (by omega) (by omega) (by omega) J P D' with g | g
                · exact g
                · rcases D with D | ⟨d1, d2, d3, d4⟩
                  · omega
                  · exact absurd d2 g.2
              have NX : ∀ d σ, l < nl → mq_JF h told ts cap tb cl pr sz T τ0 nl F c σ0 σ → mq_P c nl t (mq_x σ) (mq_c σ) (σ 250) (σ 251) → ((d = 1 ∧ mq_sm (mq_mu (σ 250) (σ 251)) c < mq_sm (mq_mu (σs 250) (σs 251)) c) ∨ (d = 0 ∧ mq_sm (mq_mu (σ 250) (σ 251)) c = mq_sm (mq_mu (σs 250) (σs 251)) c ∧ (∀ s' l : Int, 0 ≤ s' → s' < s → s' ≠ t → 0 ≤ l → l < nl → mq_o (mq_x σ) (mq_c σ) (σ 250) (σ 251) s' l) ∧ ∀ l', 0 ≤ l' → l' < l + 1 → s ≠ t → mq_o (mq_x σ) (mq_c σ) (σ 250) (σ 251) s l')) → f_X12_prices_u199 K (f_X12_prices_u60 K (f_X12_prices_u205 K (f_X12_prices_u49 K (f_X12_prices_u211 K (f_X12_prices_u41 K (f_X12_prices_u214 K) N)) M)) M') σ t d s l := fun d σ ll J P D => by
                unfold f_X12_prices_u199
                refine ⟨mt_I (by omega) (by omega), fun y e => ?_⟩
                subst e
                exact ihl (l + 1) d σ (by omega) (by omega) (by omega) J P D
              -- nothing better here
              have KEEP : l < nl → mq_o (mq_x σ) (mq_c σ) (σ 250) (σ 251) s l → f_X12_prices_u199 K (f_X12_prices_u60 K (f_X12_prices_u205 K (f_X12_prices_u49 K (f_X12_prices_u211 K (f_X12_prices_u41 K (f_X12_prices_u214 K) N)) M)) M') σ t d s l := fun ll ho => NX d σ ll J P (by
                rcases D with D | ⟨d1, d2, d3, d4⟩
                · exact Or.inl D
                · refine Or.inr ⟨d1, d2, d3, fun l' a b e => ?_⟩
                  by_cases z : l' = l
                  · rw [z]; exact ho
                  · exact d4 l' a (by omega) e)
              unfold f_X12_prices_u60
              rw [b3]
              refine fun _ => ⟨fun _ => OUT (Or.inl (by omega)), fun q3 => ⟨fun e => OUT (Or.inr e), fun sn => ⟨mt_I (by omega) (by omega), mt_I (by omega) (by omega), by omega, by omega, fun _ y7 e7 => ?_⟩⟩⟩
              have ll : l < nl := by omega
              obtain ⟨w1, w2, w3, w4⟩ := J.1.2.2.2 s l s0 l0 ll (by omega)
              have e7' : y7 = mq_x σ s l := e7
              rw [← e7] at w1 w2
              obtain ⟨v1, v2, -, -, -⟩ := b7 l l0 ll
              obtain ⟨u1, u2⟩ := mq_c_r J.1 l0 ll
              have ec : σ 220 (σ 237 l) = mq_c σ l := rfl
              rw [ec]
              refine ⟨w1, by omega, fun _ => ⟨fun np => ?_, fun np => KEEP ll (fun z => absurd np (by rw [e7']; exact z))⟩⟩
              have pb := mq_P_b b2 P w1 w2 np
              -- better
              have SET : ∀ y14 y17, y14 = σ 250 y7 + mq_c σ l → y17 = σ 251 y7 + 1 → (σ 250 s = -1 ∨ y14 < σ 250 s ∨ (y14 = σ 250 s ∧ y17 < σ 251 s)) → f_X12_prices_u181 K (f_X12_prices_u60 K (f_X12_prices_u205 K (f_X12_prices_u49 K (f_X12_prices_u211 K (f_X12_prices_u41 K (f_X12_prices_u214 K) N)) M)) M') σ t s l y14 y17 := by
                intro y14 y17 e14 e17 im
                unfold f_X12_prices_u181
                refine ⟨s0, by omega, fun σ1 s1 => ⟨s0, by omega, fun σ2 s2 => ?_⟩⟩
                have f2 : ∀ j, j ≠ 250 → j ≠ 251 → σ2 j = σ j := fun j h1 h2 => by rw [s2, ml_up_k h2, s1, ml_up_k h1]
                obtain ⟨x1, x2⟩ := XK σ σ2 f2
                have a250 : σ2 250 s = y14 := by rw [s2, ml_up_k (by omega), s1, ml_up_same]
                have a251 : σ2 251 s = y17 := by rw [s2, ml_up_same]
                have r := mq_P_set (p' := σ2 250) (st' := σ2 251) b2 P s0 (by omega) l0 ll sn (by rw [← e7']; exact w1) (by rw [← e7']; exact w2) u1 u2 (by rw [← e7']; exact np) (by rw [← e7', ← e14, ← e17]; exact im) (by rw [← e7', ← e14]; exact a250) (by rw [← e7', ← e17]; exact a251) (fun i hi => by rw [s2, ml_up_k (by omega), s1, ml_up_i hi]) (fun i hi => by rw [s2, ml_up_i hi, s1, ml_up_k (by omega)])
                refine NX 1 σ2 ll (JK σ σ2 f2 J) (by rw [x1, x2]; exact r.1) (Or.inl ⟨rfl, ?_⟩)
                have r2 := r.2
                rcases D with D | D
                · omega
                · omega
              refine ⟨w1, by omega, fun _ => ⟨l0, by omega, fun _ => ⟨v1, v2, fun _ => ⟨⟨by omega, by omega⟩, fun y14 e14 => ⟨w1, by omega, fun _ => ⟨⟨by omega, by omega⟩, fun y17 e17 => ⟨s0, by omega, fun _ => ⟨fun z => SET y14 y17 e14 e17 (Or.inl z), fun z => ⟨s0, by omega, fun _ => ⟨fun g => KEEP ll ?_, fun g => ⟨s0, by omega, fun _ => ⟨fun g2 => SET y14 y17 e14 e17 (Or.inr (Or.inl (by omega))), fun g2 => ⟨s0, by omega, fun _ => ⟨fun g3 => SET y14 y17 e14 e17 (Or.inr (Or.inr ⟨g2, g3⟩)), fun g3 => KEEP ll ?_⟩⟩⟩⟩⟩⟩⟩⟩⟩⟩⟩⟩⟩⟩
              · intro _
                rw [← e7']
                exact ⟨z, Or.inl (by omega)⟩
              · intro _
                rw [← e7']
                exact ⟨z, Or.inr ⟨by omega, by omega⟩⟩
          have D0 : (d = 1 ∧ mq_sm (mq_mu (σ 250) (σ 251)) c < mq_sm (mq_mu (σs 250) (σs 251)) c) ∨ (d = 0 ∧ mq_sm (mq_mu (σ 250) (σ 251)) c = mq_sm (mq_mu (σs 250) (σs 251)) c ∧ (∀ s' l : Int, 0 ≤ s' → s' < s → s' ≠ t → 0 ≤ l → l < nl → mq_o (mq_x σ) (mq_c σ) (σ 250) (σ 251) s' l) ∧ ∀ l', 0 ≤ l' → l' < 0 → s ≠ t → mq_o (mq_x σ) (mq_c σ) (σ 250) (σ 251) s l') := by
            rcases D with D | ⟨d1, d2⟩
            · exact Or.inl D
            · refine Or.inr ⟨d1, ?_, d2, fun l' a b => absurd b (by omega)⟩
              by_cases w : mq_sm (mq_mu (σ 250) (σ 251)) c = mq_sm (mq_mu (σs 250) (σs 251)) c
              · exact w
              · exact absurd ⟨d1, w⟩ eqm
          exact LT 7 0 d σ (by omega) b4 (by omega) J P D0
      rcases ST (c + 1) 0 0 σs (by omega) (by omega) (by omega) Js Ps (Or.inr ⟨rfl, fun s' l a b => absurd b (by omega)⟩) with g | g
      · exact g
      · exact absurd rfl g.2
  -- emptied
  have A : ∀ (N : Nat) (s : Int) (σ : ml_St), 0 ≤ s → s ≤ c → c - s < N → mq_JF h told ts cap tb cl pr sz T τ0 nl F c σ0 σ → (∀ s', 0 ≤ s' → s' < s → σ 250 s' = if s' = t then 0 else -1) → f_X12_prices_u2 K (f_X12_prices_u32 K) N σ t s := by
    intro N
    induction N with
    | zero => intro s σ s0 s1 hN; omega
    | succ N ih =>
      intro s σ s0 s1 hN J hp
      obtain ⟨b1, -, b3, b4, b5, b6, b7⟩ := mq_J_b J.1
      have U : ∀ v, s < c → v = (if s = t then 0 else -1) → f_X12_prices_u25 K (f_X12_prices_u2 K (f_X12_prices_u32 K) N) σ t s s v := fun v sc hv => by
        unfold f_X12_prices_u25
        refine ⟨s0, by omega, fun σ1 t1 => ⟨mt_I (by omega) (by omega), fun y e => ?_⟩⟩
        subst e
        refine ih (s + 1) σ1 (by omega) (by omega) (by omega) (JK σ σ1 (fun j h1 h2 => by rw [t1, ml_up_k h1]) J) (fun s' a b => ?_)
        rw [t1]
        by_cases z : s' = s
        · rw [z, ml_up_same, hv]
        · rw [ml_up_i z]; exact hp s' a (by omega)
      unfold f_X12_prices_u2
      rw [b1]
      refine fun _ => ⟨fun q => ?_, fun q => ⟨fun ne => U _ (by omega) (by rw [if_neg ne]), fun e => U _ (by omega) (by rw [if_pos e])⟩⟩
      unfold f_X12_prices_u32
      refine ⟨t0, by omega, fun σ1 s1' => ⟨(mq_sm (mq_mu (σ1 250) (σ1 251)) c).toNat + 2, ?_⟩⟩
      have f1 : ∀ j, j ≠ 250 → j ≠ 251 → σ1 j = σ j := fun j h1 h2 => by rw [s1', ml_up_k h2]
      have e250 : σ1 250 = σ 250 := by rw [s1', ml_up_k (by omega)]
      have et : σ1 250 t = 0 := by rw [e250, hp t t0 (by omega), if_pos rfl]
      have est : σ1 251 t = 0 := by rw [s1', ml_up_same]
      have eo : ∀ x : Int, 0 ≤ x → x < c → x ≠ t → σ1 250 x = -1 := fun x x0 x1 xt => by rw [e250, hp x x0 (by omega), if_neg xt]
      have ct : 1 ≤ mq_sm (mq_ct (σ1 250)) c := by
        have := mq_sm_u (g := fun _ => 0) (g' := fun i => if i = t then 1 else 0) t0 c t1 (fun i hi => if_neg hi)
        have z : ∀ n : Nat, mq_sm (fun _ => 0) n = 0 := by
          intro n
          induction n with
          | zero => rfl
          | succ n ihn => unfold mq_sm; rw [ihn]; rfl
        rw [z] at this
        have e : mq_sm (mq_ct (σ1 250)) c = mq_sm (fun i => if i = t then 1 else 0) c := mq_sm_e c (fun i i0 i1 => by
          unfold mq_ct
          by_cases w : i = t
          · rw [w, et, if_neg (by omega)]; rw [if_pos rfl]
          · rw [eo i i0 i1 w, if_pos rfl]; rw [if_neg w])
        rw [e, this, if_pos rfl]; omega
      refine R _ 1 σ1 (by omega) (Or.inr rfl) (JK σ σ1 f1 J) ⟨et, est, fun x x0 x1 => ?_, fun x x0 x1 xt hx => absurd (eo x x0 x1 xt) hx⟩ (fun z => absurd z (by omega))
      by_cases w : x = t
      · right; rw [w, et, est]; omega
      · left; exact eo x x0 x1 w
  unfold f_X12_prices f_X12_prices_u0
  exact ⟨c + 1, A _ 0 σ0 (by omega) (by omega) (by omega) ⟨J0, fun _ _ _ => rfl⟩ (fun s' a b => absurd b (by omega))⟩
