/-! STEP 2: the reference's cat, its middle loop -/
theorem r_cat139 {M : MS} {k : Nat × Int32 × Int32 × Nat × Int32 × Int32 × Int32 × Int32 × Int32 × Int32 × Int32 × MS → Option (MS × Int32)} {l1 l4 i x : Nat} {l2 l3 l5 l6 l8 l9 l11 : Int32} {u v o : List Nat} (hne : l1 ≠ 101) (hA : At M l1 i (u ++ x :: v)) (hf : o.length < gL M 101) (hb : i + u.length < 1073741824) (hb2 : o.length < 1073741824) :
    m_Mo_cat_139 k l1 l2 l3 l4 l5 l6 l8 l9 (Int32.ofNat o.length) l11 (Int32.ofNat (i + u.length)) (wr M 101 0 o) = k (l1, l2, l3, l4, l5, l6, l8, l9, Int32.ofNat (o ++ [x]).length, l11, Int32.ofNat (i + (u ++ [x]).length), wr M 101 0 (o ++ [x])) := by
  unfold m_Mo_cat_139
  have hg : At (wr M 101 0 o) l1 i (u ++ x :: v) := At_wr_ne hne hA
  obtain ⟨g1, g2⟩ := hg.get
  rw [ld_of g2 (by omega), g1]
  simp only [Option.bind_some]
  rw [st_of (by show o.length < gL M 101; omega) (by omega)]
  simp only [Option.bind_some]
  have e := wr_snoc (M := M) (b := 101) (j := 0) (x := x) (t := o)
  rw [Nat.zero_add] at e
  rw [e, show Int32.ofNat o.length + 1 = Int32.ofNat (o ++ [x]).length by rw [List.length_append]; exact i_add_of o.length 1, show Int32.ofNat (i + u.length) + 1 = Int32.ofNat (i + (u ++ [x]).length) by rw [List.length_append]; exact i_add_of (i + u.length) 1]
theorem r_cat103b {M : MS} {l1 l4 i j las0 more : Nat} {l8 : Int32} (hne : l1 ≠ 101) (a : List Nat) (hA : At M l1 i a) (hb : i + a.length < 1073741824) (hl : las0 < 1073741824) :
    ∀ (v u o : List Nat) (F : Nat), a = u ++ v → v.length < F → o.length + v.length ≤ gL M 101 → o.length + v.length < 1073741824 → (l8 ≠ 0 ∨ las0 < i + u.length) → fx (fun (k : Nat × Int32 × Int32 × Nat × Int32 × Int32 × Int32 × Int32 × Int32 × Int32 × Int32 × MS → Option (MS × Int32)) (i : Nat × Int32 × Int32 × Nat × Int32 × Int32 × Int32 × Int32 × Int32 × Int32 × Int32 × MS) => m_Mo_cat_103b k i.1 i.2.1 i.2.2.1 i.2.2.2.1 i.2.2.2.2.1 i.2.2.2.2.2.1 i.2.2.2.2.2.2.1 i.2.2.2.2.2.2.2.1 i.2.2.2.2.2.2.2.2.1 i.2.2.2.2.2.2.2.2.2.1 i.2.2.2.2.2.2.2.2.2.2.1 i.2.2.2.2.2.2.2.2.2.2.2) F (l1, Int32.ofNat i, Int32.ofNat a.length, l4, Int32.ofNat j, Int32.ofNat more, l8, 0, Int32.ofNat o.length, Int32.ofNat las0, Int32.ofNat (i + u.length), wr M 101 0 o) = m_Mo_cat_163 (l4, Int32.ofNat j, Int32.ofNat more, l8, 0, Int32.ofNat (o ++ v).length, Int32.ofNat j, wr M 101 0 (o ++ v)) := by
  intro v
  induction v with
  | nil =>
    intro u o F h1 h2 h3 h4 h5
    rw [List.append_nil] at h1
    subst h1
    rw [List.append_nil]
    cases F with
    | zero => simp at h2
    | succ F =>
      show m_Mo_cat_103b _ l1 (Int32.ofNat i) (Int32.ofNat a.length) l4 (Int32.ofNat j) (Int32.ofNat more) l8 0 (Int32.ofNat o.length) (Int32.ofNat las0) (Int32.ofNat (i + a.length)) (wr M 101 0 o) = _
      unfold m_Mo_cat_103b
      rw [i_add_of, if_pos (by rw [i_le_of (by omega) (by omega)]; omega)]
  | cons x v ih =>
    intro u o F h1 h2 h3 h4 h5
    rw [List.length_cons] at h2 h3 h4
    have hlen : a.length = u.length + (v.length + 1) := by rw [h1]; simp
    cases F with
    | zero => omega
    | succ F =>
      show m_Mo_cat_103b _ l1 (Int32.ofNat i) (Int32.ofNat a.length) l4 (Int32.ofNat j) (Int32.ofNat more) l8 0 (Int32.ofNat o.length) (Int32.ofNat las0) (Int32.ofNat (i + u.length)) (wr M 101 0 o) = _
      unfold m_Mo_cat_103b
      rw [i_add_of, if_neg (by rw [i_le_of (by omega) (by omega)]; omega), if_neg (by simp)]
      have hA2 : At M l1 i (u ++ x :: v) := by rw [h1] at hA; exact hA
      have hih := ih (u ++ [x]) (o ++ [x]) F (by rw [h1]; simp) (by omega) (by rw [List.length_append, List.length_singleton]; omega) (by rw [List.length_append, List.length_singleton]; omega) (by
        rcases h5 with h | h
        · exact Or.inl h
        · exact Or.inr (by rw [List.length_append]; omega))
      rw [show (o ++ [x]) ++ v = o ++ x :: v by simp] at hih
      by_cases c1 : i + u.length = las0
      · rw [if_neg (by rw [i_eq_of (by omega) (by omega)]; simpa using c1)]
        have h8 : l8 ≠ 0 := by
          rcases h5 with h | h
          · exact h
          · omega
        rw [if_pos h8, r_cat139 (v := v) hne hA2 (by omega) (by omega) (by omega)]
        exact hih
      · rw [if_pos (by rw [i_eq_of (by omega) (by omega)]; exact c1), r_cat139 (v := v) hne hA2 (by omega) (by omega) (by omega)]
        exact hih
