/-! STEP 2: the reference's cat, its last loop; a CAT's right spine -/
theorem r_cat163 {M : MS} {l4 j : Nat} {l9 : Int32} (hne : l4 ≠ 101) (u0 b : List Nat) (hB : At M l4 j b) (hf : u0.length + b.length ≤ gL M 101) (hb : j + b.length < 1073741824) (hb2 : u0.length + b.length < 1073741824) :
    ∀ (v u : List Nat) (F : Nat), b = u ++ v → v.length < F → fx (fun (k : Nat × Int32 × Int32 × Int32 × Int32 × Int32 × Int32 × MS → Option (MS × Int32)) (i : Nat × Int32 × Int32 × Int32 × Int32 × Int32 × Int32 × MS) => m_Mo_cat_163b k i.1 i.2.1 i.2.2.1 i.2.2.2.1 i.2.2.2.2.1 i.2.2.2.2.2.1 i.2.2.2.2.2.2.1 i.2.2.2.2.2.2.2) F (l4, Int32.ofNat j, Int32.ofNat b.length, 0, l9, Int32.ofNat (u0.length + u.length), Int32.ofNat (j + u.length), wr M 101 0 (u0 ++ u)) = some (wr M 101 0 (u0 ++ b), Int32.ofNat (u0.length + b.length)) := by
  intro v
  induction v with
  | nil =>
    intro u F h1 h2
    rw [List.append_nil] at h1
    subst h1
    cases F with
    | zero => simp at h2
    | succ F =>
      show m_Mo_cat_163b _ l4 (Int32.ofNat j) (Int32.ofNat b.length) 0 l9 (Int32.ofNat (u0.length + b.length)) (Int32.ofNat (j + b.length)) (wr M 101 0 (u0 ++ b)) = _
      unfold m_Mo_cat_163b m_Mo_cat_199 m_Mo_cat_216
      rw [i_add_of, if_pos (by rw [i_le_of (by omega) (by omega)]; omega)]
      by_cases h9 : l9 = 0
      · rw [if_pos h9, if_pos h9]
      · rw [if_neg h9, if_pos rfl, if_neg h9, if_pos rfl]
  | cons x v ih =>
    intro u F h1 h2
    rw [List.length_cons] at h2
    have hlen : b.length = u.length + (v.length + 1) := by rw [h1]; simp
    cases F with
    | zero => omega
    | succ F =>
      show m_Mo_cat_163b _ l4 (Int32.ofNat j) (Int32.ofNat b.length) 0 l9 (Int32.ofNat (u0.length + u.length)) (Int32.ofNat (j + u.length)) (wr M 101 0 (u0 ++ u)) = _
      unfold m_Mo_cat_163b
      have hg : At (wr M 101 0 (u0 ++ u)) l4 j (u ++ x :: v) := At_wr_ne hne (by rw [h1] at hB; exact hB)
      obtain ⟨g1, g2⟩ := hg.get
      rw [i_add_of, if_neg (by rw [i_le_of (by omega) (by omega)]; omega), if_neg (by simp), ld_of g2 (by omega), g1]
      simp only [Option.bind_some]
      rw [st_of (by show u0.length + u.length < gL M 101; omega) (by omega)]
      simp only [Option.bind_some]
      have e := wr_snoc (M := M) (b := 101) (j := 0) (x := x) (t := u0 ++ u)
      rw [Nat.zero_add, List.length_append] at e
      rw [e, List.append_assoc, show Int32.ofNat (u0.length + u.length) + 1 = Int32.ofNat (u0.length + (u ++ [x]).length) by rw [List.length_append]; exact i_add_of (u0.length + u.length) 1, show Int32.ofNat (j + u.length) + 1 = Int32.ofNat (j + (u ++ [x]).length) by rw [List.length_append]; exact i_add_of (j + u.length) 1]
      exact ih (u ++ [x]) F (by rw [h1]; simp) (by omega)
/-- what stands before a CAT's last part, and that part -/
theorem spine {b : List Nat} : ∀ (n : Nat) (a : List Nat), a.length ≤ n → wf a → ∃ pre las, a = pre ++ las ∧ wf las ∧ hd las ≠ 3 ∧ catF n a b = pre ++ 3 :: (las ++ b) := by
  intro n
  induction n with
  | zero =>
    intro a h1 h2
    exact absurd (List.length_eq_zero_iff.mp (by omega)) (wf_ne h2)
  | succ n ih =>
    intro a h1 h2
    by_cases h : hd a = 3
    · obtain ⟨p, q, e1, e2, e3, e4⟩ := pts_two h2 h
      have hl : q.length ≤ n := by
        rw [e4, List.length_cons, List.length_append] at h1
        omega
      obtain ⟨pre, las, s1, s2, s3, s4⟩ := ih q hl e3
      refine ⟨3 :: (p ++ pre), las, by rw [e4, s1]; simp, s2, s3, ?_⟩
      unfold catF
      rw [if_pos h, e1]
      show 3 :: (p ++ catF n q b) = _
      rw [s4]
      simp
    · refine ⟨[], a, rfl, h2, h, ?_⟩
      unfold catF
      rw [if_neg h]
      rfl
