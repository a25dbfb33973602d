/-! some power of a matching of at most 10 ends comes again soon: all 1068 matchings are gone through -/
def bf_get (c x : Nat) : Nat := c / 16 ^ x % 16
def bf_cd (f : Nat → Nat) : Nat → Nat
  | 0 => 0
  | n + 1 => bf_cd f n + f n * 16 ^ n
def bf_f (c : Nat) (e : Int) : Int := (bf_get c e.toNat : Nat)
def bf_pr (h u v : Nat) : Nat := bf_cd (fun e => (mt_prod h (bf_f u) (bf_f v) e).toNat) (2 * h)
def bf_t (h v : Nat) : Nat → List Nat → Nat → Bool
  | 0, _, _ => false
  | F + 1, seen, u => if seen.contains u then true else mb_fc (bf_pr h u v) (fun u' => bf_t h v F (u :: seen) u')
def bf_all (h : Nat) : Nat → List Nat → Nat → Bool
  | 0, _, _ => false
  | F + 1, free, c => match free with
    | [] => bf_t h c 8 [] c
    | e :: rest => rest.all (fun j => mb_fc (c + j * 16 ^ e + e * 16 ^ j) (fun c' => bf_all h F (rest.erase j) c'))
theorem bf_2 : bf_all 2 3 [0, 1, 2, 3] 0 = true := by decide +kernel
theorem bf_3 : bf_all 3 4 [0, 1, 2, 3, 4, 5] 0 = true := by decide +kernel
theorem bf_4 : bf_all 4 5 [0, 1, 2, 3, 4, 5, 6, 7] 0 = true := by decide +kernel
theorem bf_5 : bf_all 5 6 [0, 1, 2, 3, 4, 5, 6, 7, 8, 9] 0 = true := by decide +kernel
theorem bf_cd_c {g g' : Nat → Nat} : ∀ n, (∀ x, x < n → g' x = g x) → bf_cd g' n = bf_cd g n := by
  intro n
  induction n with
  | zero => intro _; rfl
  | succ n ih => intro h; unfold bf_cd; rw [ih (fun x hx => h x (by omega)), h n (by omega)]
theorem bf_cd_up {g g' : Nat → Nat} {e : Nat} (he : ∀ x, x ≠ e → g' x = g x) (z : g e = 0) : ∀ n, e < n → bf_cd g' n = bf_cd g n + g' e * 16 ^ e := by
  intro n
  induction n with
  | zero => intro h; omega
  | succ n ih =>
    intro h
    unfold bf_cd
    by_cases q : e = n
    · subst q
      rw [bf_cd_c e (fun x hx => he x (by omega)), z]; omega
    · rw [ih (by omega), he n (by omega)]; omega
theorem bf_cd_lt {f : Nat → Nat} : ∀ n, (∀ x, x < n → f x < 16) → bf_cd f n < 16 ^ n := by
  intro n
  induction n with
  | zero => intro _; show 0 < 1; omega
  | succ n ih =>
    intro h
    have a := ih (fun x hx => h x (by omega))
    have b := Nat.mul_le_mul_right (16 ^ n) (show f n ≤ 15 by have := h n (by omega); omega)
    unfold bf_cd
    rw [Nat.pow_succ]
    omega
theorem bf_get_cd {f : Nat → Nat} : ∀ n, (∀ x, x < n → f x < 16) → ∀ x, x < n → bf_get (bf_cd f n) x = f x := by
  intro n
  induction n with
  | zero => intro _ x hx; omega
  | succ n ih =>
    intro h x hx
    have a := bf_cd_lt n (fun x hx => h x (by omega))
    unfold bf_cd bf_get
    by_cases q : x = n
    · subst q
      rw [Nat.add_mul_div_right _ _ (Nat.pow_pos (by omega)), Nat.div_eq_of_lt a, Nat.zero_add, Nat.mod_eq_of_lt (h x (by omega))]
    · have i := ih (fun x hx => h x (by omega)) x (by omega)
      unfold bf_get at i
      have e : f n * 16 ^ n = f n * 16 ^ (n - x - 1) * 16 * 16 ^ x := by
        have : 16 ^ n = 16 ^ (n - x - 1) * 16 * 16 ^ x := by
          rw [← Nat.pow_succ, ← Nat.pow_add, show (n - x - 1).succ + x = n by omega]
        rw [this, ← Nat.mul_assoc, ← Nat.mul_assoc]
      rw [e, Nat.add_mul_div_right _ _ (Nat.pow_pos (by omega)), Nat.add_mul_mod_self_right]
      exact i
theorem bf_t_s {h c : Nat} {cu : Nat → Nat} (h0 : ∀ n, cu (n + 1) = bf_pr h (cu n) c) : ∀ (F n : Nat) (seen : List Nat), (∀ y, y ∈ seen → ∃ i, i < n ∧ cu i = y) → bf_t h c F seen (cu n) = true → ∃ i m, i < m ∧ m ≤ n + F ∧ cu i = cu m := by
  intro F
  induction F with
  | zero => intro n seen _ t; exact absurd t (by unfold bf_t; decide)
  | succ F ih =>
    intro n seen hs t
    unfold bf_t at t
    by_cases q : seen.contains (cu n) = true
    · obtain ⟨i, i1, i2⟩ := hs (cu n) (by simpa using q)
      exact ⟨i, n, i1, by omega, i2⟩
    · rw [if_neg q, mb_fc_e, ← h0 n] at t
      obtain ⟨i, m, i1, i2, i3⟩ := ih (n + 1) (cu n :: seen) (fun y hy => by
        rcases List.mem_cons.mp hy with z | z
        · exact ⟨n, by omega, z.symm⟩
        · obtain ⟨i, i1, i2⟩ := hs y z
          exact ⟨i, by omega, i2⟩) t
      exact ⟨i, m, i1, by omega, i3⟩
theorem bf_all_s {h : Nat} {f : Nat → Nat} (hf : ∀ x, x < 2 * h → f x < 2 * h ∧ f (f x) = x ∧ f x ≠ x) : ∀ (F : Nat) (free : List Nat) (c : Nat), free.Nodup → (∀ x, x ∈ free → x < 2 * h ∧ f x ∈ free) → c = bf_cd (fun x => if x ∈ free then 0 else f x) (2 * h) → bf_all h F free c = true → bf_t h (bf_cd f (2 * h)) 8 [] (bf_cd f (2 * h)) = true := by
  intro F
  induction F with
  | zero => intro free c _ _ _ t; exact absurd t (by unfold bf_all; decide)
  | succ F ih =>
    intro free c nd cl ec t
    cases free with
    | nil =>
      have : c = bf_cd f (2 * h) := by rw [ec]; exact bf_cd_c _ (fun x _ => by simp)
      rw [← this]
      exact t
    | cons e rest =>
      have t : rest.all (fun j => mb_fc (c + j * 16 ^ e + e * 16 ^ j) (fun c' => bf_all h F (rest.erase j) c')) = true := t
      obtain ⟨ne, ndr⟩ := List.nodup_cons.mp nd
      obtain ⟨e1, e2⟩ := cl e List.mem_cons_self
      obtain ⟨f1, f2, f3⟩ := hf e e1
      have jr : f e ∈ rest := (List.mem_cons.mp e2).resolve_left f3
      have tj := List.all_eq_true.mp t (f e) jr
      rw [mb_fc_e] at tj
      have me : ∀ x, x ∈ rest.erase (f e) ↔ x ≠ f e ∧ x ∈ rest := fun x => ndr.mem_erase_iff
      refine ih _ _ (ndr.erase _) (fun x hx => ?_) ?_ tj
      · obtain ⟨x1, x2⟩ := (me x).1 hx
        obtain ⟨y1, y2⟩ := cl x (List.mem_cons_of_mem _ x2)
        obtain ⟨z1, z2, z3⟩ := hf x y1
        refine ⟨y1, (me _).2 ⟨fun q => ?_, (List.mem_cons.mp y2).resolve_left (fun q => ?_)⟩⟩
        · have : x = e := by rw [← z2, q, f2]
          rw [this] at x2; exact ne x2
        · exact x1 (by rw [← q, z2])
      · have u1 := bf_cd_up (g := fun x => if x ∈ e :: rest then 0 else f x) (g' := fun x => if x = e then f e else if x ∈ e :: rest then 0 else f x) (e := e) (fun x hx => by simp only [if_neg hx]) (by simp) (2 * h) e1
        have u2 := bf_cd_up (g := fun x => if x = e then f e else if x ∈ e :: rest then 0 else f x) (g' := fun x => if x = f e then e else if x = e then f e else if x ∈ e :: rest then 0 else f x) (e := f e) (fun x hx => by simp only [if_neg hx]) (by simp [f3, jr]) (2 * h) f1
        have u3 := bf_cd_c (g := fun x => if x = f e then e else if x = e then f e else if x ∈ e :: rest then 0 else f x) (g' := fun x => if x ∈ rest.erase (f e) then 0 else f x) (2 * h) (fun x _ => by
          by_cases q1 : x = f e
          · have : ¬ x ∈ rest.erase (f e) := fun z => ((me x).1 z).1 q1
            simp only [if_neg this, if_pos q1]; rw [q1, f2]
          · by_cases q2 : x = e
            · have : ¬ x ∈ rest.erase (f e) := fun z => ne (by rw [← q2]; exact ((me x).1 z).2)
              simp only [if_neg this, if_neg q1, if_pos q2]; rw [q2]
            · by_cases q3 : x ∈ rest
              · have h1 : x ∈ rest.erase (f e) := (me x).2 ⟨q1, q3⟩
                have h2 : x ∈ e :: rest := List.mem_cons_of_mem _ q3
                simp only [if_pos h1, if_neg q1, if_neg q2, if_pos h2]
              · have h1 : ¬ x ∈ rest.erase (f e) := fun z => q3 ((me x).1 z).2
                have h2 : ¬ x ∈ e :: rest := fun z => q3 ((List.mem_cons.mp z).resolve_left q2)
                simp only [if_neg h1, if_neg q1, if_neg q2, if_neg h2])
        simp only [if_true] at u1 u2
        rw [u3, u2, u1, ec]
theorem mq_8_p {h : Int} {v : Int → Int} (h2 : 2 ≤ h) (h5 : h ≤ 5) (hv : mt_M h v) : ∃ a m : Nat, a < m ∧ m ≤ 8 ∧ mt_eq h (mt_pp h v a) (mt_pp h v m) := by
  obtain ⟨H, rfl⟩ : ∃ H : Nat, h = H := ⟨h.toNat, by omega⟩
  -- v as natural numbers
  have hf : ∀ x : Nat, x < 2 * H → (v x).toNat < 2 * H ∧ (v ((v x).toNat : Nat)).toNat = x ∧ (v x).toNat ≠ x := fun x hx => by
    obtain ⟨y1, y2, y3, y4⟩ := hv x (by omega) (by omega)
    have e : (((v x).toNat : Nat) : Int) = v x := by omega
    rw [e, y3]
    omega
  have DE : ∀ g : Int → Int, mt_M H g → mt_eq H g (bf_f (bf_cd (fun x => (g x).toNat) (2 * H))) := fun g hg e e0 e1 => by
    unfold bf_f
    rw [bf_get_cd (f := fun x => (g x).toNat) (2 * H) (fun x hx => by have := hg x (by omega) (by omega); omega) e.toNat (by omega)]
    have := hg e e0 e1
    rw [show ((e.toNat : Nat) : Int) = e by omega]
    omega
  have T : bf_t H (bf_cd (fun x : Nat => (v x).toNat) (2 * H)) 8 [] (bf_cd (fun x : Nat => (v x).toNat) (2 * H)) = true := by
    have c4 : H = 2 ∨ H = 3 ∨ H = 4 ∨ H = 5 := by omega
    have go : ∀ (F : Nat) (l : List Nat), l.Nodup → (∀ x, x ∈ l ↔ x < 2 * H) → bf_all H F l 0 = true → bf_t H (bf_cd (fun x : Nat => (v x).toNat) (2 * H)) 8 [] (bf_cd (fun x : Nat => (v x).toNat) (2 * H)) = true := fun F l nd ml t => by
      refine bf_all_s (f := fun x : Nat => (v x).toNat) hf F l 0 nd (fun x hx => ⟨(ml x).1 hx, (ml _).2 (hf x ((ml x).1 hx)).1⟩) ?_ t
      have z : ∀ n : Nat, bf_cd (fun _ => 0) n = 0 := by
        intro n
        induction n with
        | zero => rfl
        | succ n ih => unfold bf_cd; rw [ih]; omega
      exact (z (2 * H)).symm.trans (bf_cd_c (2 * H) (fun x hx => by rw [if_pos ((ml x).2 hx)])).symm
    rcases c4 with z | z | z | z
    · subst z; exact go _ _ (by decide) (fun x => by simp; omega) bf_2
    · subst z; exact go _ _ (by decide) (fun x => by simp; omega) bf_3
    · subst z; exact go _ _ (by decide) (fun x => by simp; omega) bf_4
    · subst z; exact go _ _ (by decide) (fun x => by simp; omega) bf_5
  generalize hc : bf_cd (fun x : Nat => (v x).toNat) (2 * H) = c at T
  obtain ⟨cu, c0, cs⟩ : ∃ cu : Nat → Nat, cu 0 = c ∧ ∀ n, cu (n + 1) = bf_pr H (cu n) c := ⟨fun n => Nat.rec c (fun _ y => bf_pr H y c) n, rfl, fun _ => rfl⟩
  rw [← c0] at T
  obtain ⟨a, m, am, m12, e⟩ := bf_t_s (h := H) (c := c) cs 8 0 [] (fun y hy => absurd hy List.not_mem_nil) (by rw [← c0]; exact T)
  have hvc : mt_eq H v (bf_f c) := by rw [← hc]; exact DE v hv
  have E : ∀ n, mt_eq H (mt_pp H v n) (bf_f (cu n)) := by
    intro n
    induction n with
    | zero => rw [c0]; exact hvc
    | succ n ih =>
      have M := mt_pp_M h5 hv n
      have PM := mt_prod_M h5 M hv
      have P : mt_eq H (mt_prod H (mt_pp H v n) v) (mt_prod H (bf_f (cu n)) (bf_f c)) := fun e e0 e1 => by
        unfold mt_prod
        rw [mt_eq_out ih hvc _ _ (mt_s_all e0 e1).1]
      intro e e0 e1
      show mt_both H (mt_pp H v n) v e = _
      rw [mt_eq_both h5 e e0 e1, cs n, DE _ PM e e0 e1]
      unfold bf_pr
      rw [bf_cd_c (2 * H) (fun x hx => by rw [P x (by omega) (by omega)])]
  exact ⟨a, m, am, by omega, fun x x0 x1 => by rw [E a x x0 x1, E m x x0 x1, e]⟩
theorem mq_64_p : mq_64 := fun h v h2 h5 hv d => by
  obtain ⟨a, m, am, m8, e⟩ := mq_8_p h2 h5 hv
  exact d a m am (by omega) e
/-- the first power that has come before is one of the first nine -/
theorem mq_8 {h : Int} {v : Int → Int} {n : Nat} (h2 : 2 ≤ h) (h5 : h ≤ 5) (hv : mt_M h v) (d : mq_d h v n) : n ≤ 8 := by
  obtain ⟨a, m, am, m8, e⟩ := mq_8_p h2 h5 hv
  rcases Nat.lt_or_ge 8 n with z | z
  · exact absurd e (d a m am (by omega))
  · exact z
