/-! the matching that a with b behind it makes -/
def mt_out (h : Int) (a b : Int → Int) : Nat → Int → Int
  | 0, x => mt_P h a b x
  | n + 1, x => if h ≤ mt_P h a b x ∧ mt_P h a b x < 3 * h then mt_out h a b n (mt_J h (mt_P h a b x)) else mt_P h a b x
theorem mt_out_W {h : Int} {a b : Int → Int} : ∀ (n N : Nat) (w : Nat → Int) (s x : Int), mt_W h a b n w s x → n ≤ N → mt_out h a b N s = x := by
  intro n
  induction n with
  | zero =>
    intro N w s x hw _
    have e : x = mt_P h a b s := by rw [hw.2.2.1, hw.1]
    have ho : ¬ (h ≤ mt_P h a b s ∧ mt_P h a b s < 3 * h) := fun q => hw.2.2.2 (by rw [e]; exact q)
    cases N with
    | zero => exact e.symm
    | succ N => unfold mt_out; rw [if_neg ho, e]
  | succ n ih =>
    intro N w s x hw hN
    cases N with
    | zero => omega
    | succ N =>
      obtain ⟨g1, g2⟩ := hw.2.1 0 (by omega)
      rw [hw.1] at g1 g2
      unfold mt_out
      rw [if_pos (show h ≤ mt_P h a b s ∧ mt_P h a b s < 3 * h from g1)]
      refine ih N (fun i => w (i + 1)) _ x ⟨g2, fun i hi => hw.2.1 (i + 1) (by omega), hw.2.2.1, hw.2.2.2⟩ (by omega)
/-- an end of the whole as a start, a place outside as an end -/
def mt_s (h e : Int) : Int := if e < h then e else 2 * h + e
def mt_e (h x : Int) : Int := if x < h then x else x - 2 * h
def mt_prod (h : Int) (a b : Int → Int) (e : Int) : Int := mt_e h (mt_out h a b 10 (mt_s h e))
theorem mt_s_all {h e : Int} (h0 : 0 ≤ e) (h1 : e < 2 * h) : mt_all h (mt_s h e) ∧ ¬ mt_in h (mt_s h e) ∧ mt_e h (mt_s h e) = e := by
  unfold mt_all mt_in mt_e mt_s
  by_cases q : e < h
  · rw [if_pos q, if_pos q]; exact ⟨⟨by omega, by omega⟩, by omega, rfl⟩
  · rw [if_neg q, if_neg (by omega)]; exact ⟨⟨by omega, by omega⟩, by omega, by omega⟩
theorem mt_e_s {h x : Int} (hx : mt_all h x) (ho : ¬ mt_in h x) : 0 ≤ mt_e h x ∧ mt_e h x < 2 * h ∧ mt_s h (mt_e h x) = x := by
  have ho : ¬ (h ≤ x ∧ x < 3 * h) := ho
  obtain ⟨h1, h2⟩ := hx
  unfold mt_e mt_s
  by_cases q : x < h
  · rw [if_pos q, if_pos q]; exact ⟨by omega, by omega, rfl⟩
  · rw [if_neg q, if_neg (by omega)]; exact ⟨by omega, by omega, by omega⟩
theorem mt_prod_M {h : Int} {a b : Int → Int} (h5 : h ≤ 5) (ha : mt_M h a) (hb : mt_M h b) : mt_M h (mt_prod h a b) := by
  intro e h0 h1
  obtain ⟨s1, s2, s3⟩ := mt_s_all h0 h1
  obtain ⟨n, x, hw, hn, hx⟩ := mt_exist ha hb s1 s2
  have e1 : mt_out h a b 10 (mt_s h e) = x := mt_out_W n 10 _ _ x hw (by omega)
  obtain ⟨g1, g2, g3⟩ := mt_e_s hx hw.2.2.2
  have e2 : mt_prod h a b e = mt_e h x := by unfold mt_prod; rw [e1]
  have e3 : mt_out h a b 10 x = mt_s h e := mt_out_W n 10 _ _ _ (mt_W_rev ha hb s1 s2 hw) (by omega)
  rw [e2]
  refine ⟨g1, g2, ?_, fun q => ?_⟩
  · unfold mt_prod; rw [g3, e3, s3]
  · exact mt_W_ne ha hb s1 s2 hw (by rw [← g3, q])
