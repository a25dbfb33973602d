/-! the walk of a thread: a step can be taken back, and the start comes from nowhere, so no place comes twice -/
def mw_sp (val : Int → Int) (s : Int × Int × Int) : Int × Int × Int :=
  let v := val s.1
  let r := if s.2.1 = v / 2 then v / 2 + 1 else if s.2.1 = v / 2 + 1 then v / 2 else s.2.1
  let w := if s.2.1 = v / 2 ∨ s.2.1 = v / 2 + 1 then (if v % 2 = 0 then s.2.2 else 1 - s.2.2) else s.2.2
  (s.1 + (if w = 0 then -1 else 1), r, w)
def mw_ob (val : Int → Int) (s : Int × Int × Int) : Nat → Int × Int × Int
  | 0 => s
  | k + 1 => mw_sp val (mw_ob val s k)
theorem mw_sp_1 (val : Int → Int) (s : Int × Int × Int) : (mw_sp val s).1 = s.1 + (if (mw_sp val s).2.2 = 0 then -1 else 1) := rfl
theorem mw_sp_r (val : Int → Int) (s : Int × Int × Int) : (mw_sp val s).2.1 = if s.2.1 = val s.1 / 2 then val s.1 / 2 + 1 else if s.2.1 = val s.1 / 2 + 1 then val s.1 / 2 else s.2.1 := rfl
theorem mw_sp_w (val : Int → Int) (s : Int × Int × Int) : (mw_sp val s).2.2 = if s.2.1 = val s.1 / 2 ∨ s.2.1 = val s.1 / 2 + 1 then (if val s.1 % 2 = 0 then s.2.2 else 1 - s.2.2) else s.2.2 := rfl
theorem mw_sp_i {val : Int → Int} {s s' : Int × Int × Int} (e : mw_sp val s = mw_sp val s') : s = s' := by
  have a1 := mw_sp_1 val s
  have b1 := mw_sp_1 val s'
  have a2 := mw_sp_r val s
  have b2 := mw_sp_r val s'
  have a3 := mw_sp_w val s
  have b3 := mw_sp_w val s'
  rw [e] at a1 a2 a3
  have e1 : s.1 = s'.1 := by omega
  rw [e1] at a2 a3
  generalize val s'.1 = v at *
  generalize v / 2 = q at *
  generalize v % 2 = u at *
  have e2 : s.2.1 = s'.2.1 := by
    rw [a2] at b2
    split at b2 <;> split at b2 <;> (try split at b2) <;> (try split at b2) <;> omega
  rw [e2] at a3
  have e3 : s.2.2 = s'.2.2 := by
    rw [a3] at b3
    split at b3
    · split at b3 <;> omega
    · exact b3
  obtain ⟨x, y, z⟩ := s
  obtain ⟨x', y', z'⟩ := s'
  dsimp only at e1 e2 e3
  rw [e1, e2, e3]
theorem mw_ob_i {val : Int → Int} {s : Int × Int × Int} : ∀ (i d : Nat), mw_ob val s i = mw_ob val s (i + d) → mw_ob val s 0 = mw_ob val s d := by
  intro i
  induction i with
  | zero => intro d e; rw [Nat.zero_add] at e; exact e
  | succ i ih =>
    intro d e
    rw [show i + 1 + d = (i + d) + 1 by omega] at e
    exact ih d (mw_sp_i e)
theorem mw_ob_b {val : Int → Int} {s : Int × Int × Int} {len : Int} {k : Nat} (l0 : 0 ≤ len) (l1 : len ≤ 2000) (st : (s.1 = 0 ∧ s.2.2 = 1) ∨ (s.1 = len - 1 ∧ s.2.2 = 0)) (hr : ∀ j, j < k → 0 ≤ (mw_ob val s j).2.1 ∧ (mw_ob val s j).2.1 < 5 ∧ ((mw_ob val s j).2.2 = 0 ∨ (mw_ob val s j).2.2 = 1)) (hp : ∀ j, j < k → 0 ≤ (mw_ob val s j).1 ∧ (mw_ob val s j).1 < len) : k ≤ 20000 := by
  by_cases q : k ≤ 20000
  · exact q
  · obtain ⟨i, j, hij, hj, e⟩ := mt_ph 20000 (fun i => ((mw_ob val s i).1 * 5 + (mw_ob val s i).2.1) * 2 + (mw_ob val s i).2.2) (fun i hi => by
      have a := hr i (by omega)
      have b := hp i (by omega)
      try dsimp only
      omega)
    try dsimp only at e
    have a := hr i (by omega)
    have b := hp i (by omega)
    have a' := hr j (by omega)
    have b' := hp j (by omega)
    have e1 : (mw_ob val s i).1 = (mw_ob val s j).1 := by omega
    have e2 : (mw_ob val s i).2.1 = (mw_ob val s j).2.1 := by omega
    have e3 : (mw_ob val s i).2.2 = (mw_ob val s j).2.2 := by omega
    have ee : mw_ob val s i = mw_ob val s (i + (j - i)) := by
      rw [show i + (j - i) = j by omega]
      exact Prod.ext e1 (Prod.ext e2 e3)
    have z := mw_ob_i i (j - i) ee
    obtain ⟨d, hd⟩ : ∃ d, j - i = d + 1 := ⟨j - i - 1, by omega⟩
    rw [hd] at z
    have z : s = mw_sp val (mw_ob val s d) := z
    have f := mw_sp_1 val (mw_ob val s d)
    rw [← z] at f
    have p := hp d (by omega)
    rcases st with ⟨s1, s2⟩ | ⟨s1, s2⟩
    · rw [s1, s2, if_neg (by omega)] at f; omega
    · rw [s1, s2, if_pos rfl] at f; omega
/-- the walk: at most N signs more; what is asked for is x -/
def mw_fin (x h : Int) (s : Int × Int × Int) : Int := if x = -1 then (if s.2.2 = 0 then s.2.1 else s.2.1 + h) else -1
def mw_out (len : Int) (s : Int × Int × Int) : Prop := s.1 < 0 ∨ len ≤ s.1
def mw_on (val : Int → Int) (s : Int × Int × Int) : Prop := s.2.1 = val s.1 / 2 ∨ s.2.1 = val s.1 / 2 + 1
def mw (val : Int → Int) (len x h : Int) : Nat → Int × Int × Int → Int → Int
  | 0, s, _ => mw_fin x h s
  | N + 1, s, c => if s.1 < 0 ∨ len ≤ s.1 then mw_fin x h s else if s.2.1 = val s.1 / 2 ∨ s.2.1 = val s.1 / 2 + 1 then (if c = x then s.1 else mw val len x h N (mw_sp val s) (c + 1)) else mw val len x h N (mw_sp val s) c
def mw_e (val : Int → Int) (len x : Int) : Nat → Int × Int × Int → Int → Prop
  | 0, s, _ => mw_out len s
  | N + 1, s, c => mw_out len s ∨ (mw_on val s ∧ (c = x ∨ mw_e val len x N (mw_sp val s) (c + 1))) ∨ (¬ mw_on val s ∧ mw_e val len x N (mw_sp val s) c)
/-- signs as they stand in a row -/
def mw_v (h : Int) (val : Int → Int) : Prop := ∀ j, 0 ≤ val j ∧ val j ≤ 2 * (h - 2) + 1
def mw_s (h : Int) (s : Int × Int × Int) : Prop := 0 ≤ s.2.1 ∧ s.2.1 < h ∧ (s.2.2 = 0 ∨ s.2.2 = 1)
theorem mw_s_n {h : Int} {val : Int → Int} {s : Int × Int × Int} (v : mw_v h val) (r : mw_s h s) : mw_s h (mw_sp val s) := by
  obtain ⟨r1, r2, r3⟩ := r
  have v0 := v s.1
  have a := mw_sp_r val s
  have b := mw_sp_w val s
  refine ⟨?_, ?_, ?_⟩
  · rw [a]; split
    · omega
    · split <;> omega
  · rw [a]; split
    · omega
    · split <;> omega
  · rw [b]; split
    · split <;> omega
    · exact r3
theorem mw_ends {h len x : Int} {val : Int → Int} {s : Int × Int × Int} (h5 : h ≤ 5) (v : mw_v h val) (l0 : 0 ≤ len) (l1 : len ≤ 2000) (r : mw_s h s) (st : (s.1 = 0 ∧ s.2.2 = 1) ∨ (s.1 = len - 1 ∧ s.2.2 = 0)) (c : Int) : mw_e val len x 20000 s c := by
  have R : ∀ n, mw_s h (mw_ob val s n) := by
    intro n
    induction n with
    | zero => exact r
    | succ n ih => exact mw_s_n v ih
  have L : ∀ (d n : Nat) (c : Int), n + d = 20000 → (∀ j, j < n → 0 ≤ (mw_ob val s j).1 ∧ (mw_ob val s j).1 < len) → mw_e val len x d (mw_ob val s n) c := by
    intro d
    induction d with
    | zero =>
      intro n c hn hp
      show mw_out len (mw_ob val s n)
      unfold mw_out
      rcases Classical.em ((mw_ob val s n).1 < 0 ∨ len ≤ (mw_ob val s n).1) with z | z
      · exact z
      · exfalso
        have := mw_ob_b (val := val) (k := n + 1) l0 l1 st (fun j _ => by have := R j; unfold mw_s at this; omega) (fun j hj => by
          by_cases q : j = n
          · rw [q]; omega
          · exact hp j (by omega))
        omega
    | succ d ih =>
      intro n c hn hp
      show mw_out len (mw_ob val s n) ∨ _ ∨ _
      rcases Classical.em (mw_out len (mw_ob val s n)) with z | z
      · exact Or.inl z
      · have nx : ∀ c, mw_e val len x d (mw_sp val (mw_ob val s n)) c := fun c => ih (n + 1) c (by omega) (fun j hj => by
          by_cases q : j = n
          · rw [q]; unfold mw_out at z; omega
          · exact hp j (by omega))
        rcases Classical.em (mw_on val (mw_ob val s n)) with y | y
        · exact Or.inr (Or.inl ⟨y, Or.inr (nx _)⟩)
        · exact Or.inr (Or.inr ⟨y, nx _⟩)
  exact L 20000 0 c (by omega) (fun j hj => absurd hj (by omega))
theorem s_follow {Q : Int → ml_St → Prop} {p e x h len : Int} {val : Int → Int} {σ : ml_St} (h2 : 2 ≤ h) (h5 : h ≤ 5) (e0 : 0 ≤ e) (e1 : e < 2 * h) (v : mw_v h val) (l0 : 0 ≤ len) (l1 : len ≤ 2000) (el : σ p 6 = len) (ev : ∀ j, 0 ≤ j → j < len → σ (p + 5) j = val j) (k : Q (mw val len x h 20000 (if e < h then 0 else len - 1, if e < h then e else e - h, if e < h then 1 else 0) 0) σ) : f_X10_follow σ p e x h Q := by
  have L : ∀ (d N : Nat) (s : Int × Int × Int) (c steps : Int), mw_e val len x d s c → mw_s h s → 0 ≤ c → c ≤ steps → steps + d ≤ 20000 → -1 ≤ s.1 → s.1 ≤ 2000 → d < N → Q (mw val len x h d s c) σ → f_X10_follow_u54 Q (f_X10_follow_u108 Q p) (f_X10_follow_u175 Q p) p N σ x h s.2.2 s.2.1 s.1 c 20000 steps := by
    intro d
    induction d with
    | zero =>
      intro N s c steps he hs c0 c1 sd p0 p1 hN k
      obtain ⟨N, rfl⟩ : ∃ N', N = N' + 1 := ⟨N - 1, by omega⟩
      have KE : f_X10_follow_u175 Q p σ x h s.2.2 s.2.1 := by
        have k : Q (mw_fin x h s) σ := k
        unfold mw_fin at k
        unfold f_X10_follow_u175
        unfold f_X10_follow_u196
        refine ⟨fun z => ⟨fun y => ?_, fun y => ⟨mt_I (by have := hs.1; omega) (by have := hs.2.1; omega), ?_⟩⟩, fun z => ?_⟩
        · rw [if_pos z, if_pos y] at k; exact k
        · rw [if_pos z, if_neg y] at k; exact k
        · rw [if_neg z] at k; exact k
      have he : s.1 < 0 ∨ len ≤ s.1 := he
      unfold f_X10_follow_u54
      rw [el]
      exact ⟨fun _ => KE, fun q1 => ⟨fun _ => KE, fun q2 _ => ⟨fun _ => KE, fun q3 => absurd he (by omega)⟩⟩⟩
    | succ d ih =>
      intro N s c steps he hs c0 c1 sd p0 p1 hN k
      obtain ⟨N, rfl⟩ : ∃ N', N = N' + 1 := ⟨N - 1, by omega⟩
      unfold mw at k
      unfold f_X10_follow_u54
      rw [el]
      have KE : (s.1 < 0 ∨ len ≤ s.1) → f_X10_follow_u175 Q p σ x h s.2.2 s.2.1 := fun w => by
        rw [if_pos w] at k
        unfold mw_fin at k
        unfold f_X10_follow_u175
        unfold f_X10_follow_u196
        refine ⟨fun z => ⟨fun y => ?_, fun y => ⟨mt_I (by have := hs.1; omega) (by have := hs.2.1; omega), ?_⟩⟩, fun z => ?_⟩
        · rw [if_pos z, if_pos y] at k; exact k
        · rw [if_pos z, if_neg y] at k; exact k
        · rw [if_neg z] at k; exact k
      refine ⟨fun q => absurd q (by omega), fun _ => ⟨fun q2 => KE (Or.inl q2), fun q2 _ => ⟨fun q3 => KE (Or.inr q3), fun q3 => ⟨by omega, by omega, ?_⟩⟩⟩⟩
      have ei : ¬ (s.1 < 0 ∨ len ≤ s.1) := by omega
      rw [if_neg ei] at k
      rw [ev s.1 (by omega) (by omega)]
      have vr := v s.1
      have f1 := mw_sp_1 val s
      have f2 := mw_sp_r val s
      have f3 := mw_sp_w val s
      have hn := mw_s_n v hs
      obtain ⟨s1, s2, s3⟩ := id hs
      have td : Int.tdiv (val s.1) 2 = val s.1 / 2 := Int.tdiv_eq_ediv_of_nonneg vr.1
      have tm : Int.tmod (val s.1) 2 = val s.1 % 2 := Int.tmod_eq_emod_of_nonneg vr.1
      rw [td]
      refine fun _ => ⟨by omega, mt_I (by omega) (by omega), fun y7 e7 => ?_⟩
      rw [← e7] at f2 f3 k
      -- on to the next
      have MV : ∀ c', 0 ≤ c' → c' ≤ steps + 1 → mw_e val len x d (mw_sp val s) c' → Q (mw val len x h d (mw_sp val s) c') σ → ∀ r w, r = (mw_sp val s).2.1 → w = (mw_sp val s).2.2 → f_X10_follow_u154 Q (f_X10_follow_u54 Q (f_X10_follow_u108 Q p) (f_X10_follow_u175 Q p) p N) p σ x h w r s.1 c' 20000 steps := by
        intro c' a0 a1 he' k' r w er ew
        have go : ∀ y, y = (mw_sp val s).1 → f_X10_follow_u54 Q (f_X10_follow_u108 Q p) (f_X10_follow_u175 Q p) p N σ x h w r y c' 20000 (steps + 1) := fun y ey => by
          rw [er, ew, ey]
          exact ih N (mw_sp val s) c' (steps + 1) he' hn a0 a1 (by omega) (by rw [f1]; split <;> omega) (by rw [f1]; split <;> omega) (by omega) k'
        rw [← ew] at f1
        unfold f_X10_follow_u154
        unfold f_X10_follow_u166
        refine ⟨fun z => ⟨mt_I (by omega) (by omega), fun y2 e2 => ⟨⟨by omega, by omega⟩, fun y3 e3 => ?_⟩⟩, fun z => ⟨mt_I (by omega) (by omega), fun y2 e2 => ⟨⟨by omega, by omega⟩, fun y3 e3 => ?_⟩⟩⟩
        · rw [e3]; exact go y2 (by rw [f1, if_pos z]; exact e2)
        · rw [e3]; exact go y2 (by rw [f1, if_neg z]; exact e2)
      have MT : (s.2.1 = y7 ∨ s.2.1 = y7 + 1) → f_X10_follow_u102 Q (f_X10_follow_u54 Q (f_X10_follow_u108 Q p) (f_X10_follow_u175 Q p) p N) (f_X10_follow_u108 Q p) p σ x h s.2.2 s.2.1 s.1 c 20000 steps y7 := by
        intro hi
        have hon : mw_on val s := by unfold mw_on; rw [← e7]; exact hi
        rw [if_pos hi] at k f3
        unfold f_X10_follow_u102
        refine ⟨fun ne => ⟨⟨by omega, by omega⟩, fun y2 e2 => ⟨mt_I (by omega) (by omega), mt_I (by omega) (by omega), mt_I (by omega) (by omega), fun y6 e6 => ⟨by omega, by omega, ?_⟩⟩⟩, fun eq => ?_⟩
        · rw [if_neg ne] at k
          have he' : mw_e val len x d (mw_sp val s) (c + 1) := by
            rcases he with z | z | z
            · exact absurd z ei
            · exact z.2.resolve_left ne
            · exact absurd hon z.1
          rw [ev s.1 (by omega) (by omega), tm]
          subst e2
          have er : y6 = (mw_sp val s).2.1 := by
            rw [f2]
            by_cases z : s.2.1 = y7
            · rw [if_pos z]; omega
            · rw [if_neg z, if_pos (hi.resolve_left z)]; omega
          have go := MV (c + 1) (by omega) (by omega) he' k y6
          refine fun _ => ⟨by omega, mt_I (by omega) (by omega), fun z => ?_, fun z => ?_⟩
          · rw [if_neg z] at f3
            unfold f_X10_follow_u144 f_X10_follow_u152
            exact ⟨fun y => go 0 er (by omega), fun y => go 1 er (by omega)⟩
          · rw [if_pos z] at f3
            unfold f_X10_follow_u144 f_X10_follow_u152
            exact ⟨fun y => go 0 er (by omega), fun y => go 1 er (by omega)⟩
        · rw [if_pos eq] at k
          unfold f_X10_follow_u108; exact k
      refine ⟨fun z => MT (Or.inl z), fun z => ⟨mt_I (by omega) (by omega), fun z1 => ?_, fun z2 => MT (Or.inr z2)⟩⟩
      rw [if_neg (by omega)] at k f3
      rw [if_neg z, if_neg z1] at f2
      have he' : mw_e val len x d (mw_sp val s) c := by
        rcases he with y | y | y
        · exact absurd y ei
        · exact absurd y.1 (by unfold mw_on; rw [← e7]; omega)
        · exact y.2
      exact MV c c0 (by omega) he' k s.2.1 s.2.2 f2.symm f3.symm
  have S : ∀ (pos rail way : Int), mw_s h (pos, rail, way) → ((pos = 0 ∧ way = 1) ∨ (pos = len - 1 ∧ way = 0)) → Q (mw val len x h 20000 (pos, rail, way) 0) σ → f_X10_follow_u41 Q p σ x h way rail pos := by
    intro pos rail way hs st k
    unfold f_X10_follow_u41
    exact ⟨20001, L 20000 20001 (pos, rail, way) 0 0 (mw_ends h5 v l0 l1 hs st 0) hs (by omega) (by omega) (by omega) (by show -1 ≤ pos; omega) (by show pos ≤ 2000; omega) (by omega) k⟩
  unfold f_X10_follow f_X10_follow_u0
  unfold f_X10_follow_u10 f_X10_follow_u24
  rw [el]
  refine ⟨fun q => ⟨fun _ => ⟨mt_I (by omega) (by omega), fun _ _ => ⟨mt_I (by omega) (by omega), ?_⟩, fun c => absurd rfl c⟩, fun c => absurd rfl c⟩, fun q => ⟨fun c => absurd c (by omega), fun _ => ⟨fun c => absurd c (by omega), fun _ => ?_⟩⟩⟩
  · rw [if_neg (by omega), if_neg (by omega), if_neg (by omega)] at k
    exact S _ _ _ ⟨by show 0 ≤ e - h; omega, by show e - h < h; omega, Or.inl rfl⟩ (Or.inr ⟨rfl, rfl⟩) k
  · rw [if_pos (by omega), if_pos (by omega), if_pos (by omega)] at k
    exact S _ _ _ ⟨e0, by show e < h; omega, Or.inr rfl⟩ (Or.inl ⟨rfl, rfl⟩) k
/-- what is written out are signs -/
theorem mt_wr_v {t cx : Int → Int} {ex : Int → Int → Int} {n h w : Int} (n0 : 0 ≤ n) (h2 : 2 ≤ h) (ev : ∀ v, 0 ≤ v → v < w → mw_v h (ex v)) : ∀ (F : Nat) (i d need : Int) (U : Int → Int) (P : Int) (E : Int → Int), 0 ≤ i → i ≤ n → mt_gr t n h w F i d need = 0 → mw_v h E → mw_v h (mt_wr t n cx ex F i d U P E) := by
  have we : ∀ (s P : Int) (E : Int → Int), mw_v h E → mw_v h (mt_wre s P E) := fun s P E hE j => by unfold mt_wre; split <;> exact hE _
  have wa : ∀ (P : Int) (E e : Int → Int), mw_v h E → mw_v h e → mw_v h (mt_wra P E e) := fun P E e hE he j => by unfold mt_wra; split; exact hE _; exact he _
  intro F
  induction F with
  | zero => intro i d need U P E _ _ _ hE; exact hE
  | succ F ih =>
    intro i d need U P E i0 i1 g hE
    unfold mt_wr
    rcases mt_gr_c n0 i0 g with z | z | z | z | z
    · rw [if_pos z.1]; exact hE
    · rw [if_neg (by omega), if_pos z.2.1]; exact ih _ _ 1 _ _ _ (by omega) (by omega) z.2.2.2 hE
    · obtain ⟨z1, z2, z3, z4, z5, z6⟩ := z
      have r := mt_tn_r (t := t) (n := n) (i := i + 1) (by omega)
      rw [if_neg (by omega), if_neg (by omega), if_pos z2]; exact ih _ _ 0 _ _ _ (by omega) r.2 z6 (we _ _ _ hE)
    · obtain ⟨z1, z2, z3, z4, z5, z6, z7, z8⟩ := z
      have r := mt_tn_r (t := t) (n := n) (i := i + 2) (by omega)
      rw [if_neg (by omega), if_neg (by omega), if_neg (by omega), if_pos z2]; exact ih _ _ 0 _ _ _ (by omega) r.2 z8 (we _ _ _ (wa _ _ _ hE (fun j => by show 0 ≤ mt_wsg t i ∧ mt_wsg t i ≤ _; unfold mt_wsg; split <;> omega)))
    · obtain ⟨z1, z2, z3, z4, z5, z6⟩ := z
      have r := mt_tn_r (t := t) (n := n) (i := i + 1) (by omega)
      rw [if_neg (by omega), if_neg (by omega), if_neg (by omega), if_neg (by omega)]; exact ih _ _ 0 _ _ _ (by omega) r.2 z6 (we _ _ _ (wa _ _ _ hE (ev _ (by omega) z4)))
theorem mt_ex_v {h : Int} {T : Int → Int → Int} {sz : Int → Int} (h2 : 2 ≤ h) : ∀ (w : Nat), w < 16 → (∀ v : Nat, v ≤ w → mt_good h v (T v) (sz v)) → mw_v h (mt_ex T sz w) := by
  intro w
  induction w using Nat.strongRecOn with
  | ind w ih =>
    intro hw hg
    have g := hg w (Nat.le_refl w)
    rw [mt_ex_e hw g]
    refine mt_wr_v (h := h) (w := w) (by have := g.1; omega) h2 (fun v v0 v1 => ?_) _ _ _ 1 _ _ _ (Int.le_refl 0) (by have := g.1; omega) g.2.2.2 (fun j => by show (0 : Int) ≤ 0 ∧ (0 : Int) ≤ _; omega)
    have := ih v.toNat (by omega) (by omega) (fun u hu => hg u (by omega))
    rw [show ((v.toNat : Nat) : Int) = v by omega] at this
    exact this
