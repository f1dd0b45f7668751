/-! STEP 2: the reference's compare and same -/
theorem r_compare3 {M : MS} {a b many more : Nat} (hb1 : a + many < 1073741824) (hb2 : b + more < 1073741824) : ∀ (t u : List Nat) (k F : Nat), many = k + t.length → more = k + u.length → At M 100 (a + k) t → At M 100 (b + k) u → sm t → sm u → t.length < F →
    ∃ v, fx (fun (k : Int32 × Int32 × Int32 × Int32 × Int32 × MS → Option (MS × Int32)) (i : Int32 × Int32 × Int32 × Int32 × Int32 × MS) => m_Mo_compare_3b k i.1 i.2.1 i.2.2.1 i.2.2.2.1 i.2.2.2.2.1 i.2.2.2.2.2) F (Int32.ofNat a, Int32.ofNat many, Int32.ofNat b, Int32.ofNat more, Int32.ofNat k, M) = some (M, v) ∧ (v.toInt < 0 ↔ t < u) ∧ (v.toInt = 0 ↔ t = u) := by
  intro t
  induction t with
  | nil =>
    intro u k F h1 h2 h3 h4 h5 h6 h7
    cases F with
    | zero => simp at h7
    | succ F =>
      rw [List.length_nil] at h1
      refine ⟨Int32.ofNat many - Int32.ofNat more, ?_, ?_, ?_⟩
      · show m_Mo_compare_3b _ (Int32.ofNat a) (Int32.ofNat many) (Int32.ofNat b) (Int32.ofNat more) (Int32.ofNat k) M = _
        unfold m_Mo_compare_3b m_Mo_compare_37
        rw [if_pos (by rw [i_le_of (by omega) (by omega)]; omega), if_pos (by rw [i_eq_of (by omega) (by omega)]; omega)]
      · rw [i_sub (by rw [i_of (by omega), i_of (by omega)]; omega) (by rw [i_of (by omega), i_of (by omega)]; omega), i_of (by omega), i_of (by omega)]
        cases u with
        | nil => simp only [List.length_nil] at h2; constructor
                 · intro h; omega
                 · intro h; exact absurd h (List.not_lt_nil _)
        | cons y u => simp only [List.length_cons] at h2; constructor
                      · intro _; exact List.nil_lt_cons y u
                      · intro _; omega
      · rw [i_sub (by rw [i_of (by omega), i_of (by omega)]; omega) (by rw [i_of (by omega), i_of (by omega)]; omega), i_of (by omega), i_of (by omega)]
        cases u with
        | nil => simp only [List.length_nil] at h2; constructor
                 · intro _; rfl
                 · intro _; omega
        | cons y u => simp only [List.length_cons] at h2; constructor
                      · intro h; omega
                      · intro h; cases h
  | cons x t ih =>
    intro u k F h1 h2 h3 h4 h5 h6 h7
    rw [List.length_cons] at h1 h7
    cases F with
    | zero => omega
    | succ F =>
      cases u with
      | nil =>
        rw [List.length_nil] at h2
        refine ⟨Int32.ofNat many - Int32.ofNat more, ?_, ?_, ?_⟩
        · show m_Mo_compare_3b _ (Int32.ofNat a) (Int32.ofNat many) (Int32.ofNat b) (Int32.ofNat more) (Int32.ofNat k) M = _
          unfold m_Mo_compare_3b m_Mo_compare_37
          rw [if_neg (by rw [i_le_of (by omega) (by omega)]; omega), if_pos (by rw [i_le_of (by omega) (by omega)]; omega), if_neg (by rw [i_eq_of (by omega) (by omega)]; omega), if_neg (by rw [i_eq_of (by omega) (by omega)]; omega)]
        · rw [i_sub (by rw [i_of (by omega), i_of (by omega)]; omega) (by rw [i_of (by omega), i_of (by omega)]; omega), i_of (by omega), i_of (by omega)]
          constructor
          · intro h; omega
          · intro h; exact absurd h (List.not_lt_nil _)
        · rw [i_sub (by rw [i_of (by omega), i_of (by omega)]; omega) (by rw [i_of (by omega), i_of (by omega)]; omega), i_of (by omega), i_of (by omega)]
          constructor
          · intro h; omega
          · intro h; cases h
      | cons y u =>
        rw [List.length_cons] at h2
        obtain ⟨q1, q2, q3⟩ := h3.cons
        obtain ⟨p1, p2, p3⟩ := h4.cons
        have hx := h5 x List.mem_cons_self
        have hy := h6 y List.mem_cons_self
        have e1 : Int32.ofNat a + Int32.ofNat k = Int32.ofNat (a + k) := i_add_of a k
        have e2 : Int32.ofNat b + Int32.ofNat k = Int32.ofNat (b + k) := i_add_of b k
        by_cases hxy : x = y
        · subst hxy
          obtain ⟨v, w1, w2, w3⟩ := ih u (k + 1) F (by omega) (by omega) (by rw [← Nat.add_assoc]; exact q3) (by rw [← Nat.add_assoc]; exact p3) (fun z hz => h5 z (List.mem_cons_of_mem _ hz)) (fun z hz => h6 z (List.mem_cons_of_mem _ hz)) (by omega)
          refine ⟨v, ?_, ?_, ?_⟩
          · show m_Mo_compare_3b _ (Int32.ofNat a) (Int32.ofNat many) (Int32.ofNat b) (Int32.ofNat more) (Int32.ofNat k) M = _
            unfold m_Mo_compare_3b
            rw [if_neg (by rw [i_le_of (by omega) (by omega)]; omega), if_neg (by rw [i_le_of (by omega) (by omega)]; omega), e1, e2, ld_of q2 (by omega), ld_of p2 (by omega), q1, p1]
            simp only [Option.bind_some]
            rw [if_neg (by simp)]
            rw [show Int32.ofNat k + 1 = Int32.ofNat (k + 1) from i_add_of k 1]
            exact w1
          · rw [w2, List.cons_lt_cons_iff]
            constructor
            · intro h; exact Or.inr ⟨rfl, h⟩
            · intro h; rcases h with h | h
              · omega
              · exact h.2
          · rw [w3]
            constructor
            · intro h; rw [h]
            · intro h; cases h; rfl
        · refine ⟨Int32.ofNat x - Int32.ofNat y, ?_, ?_, ?_⟩
          · show m_Mo_compare_3b _ (Int32.ofNat a) (Int32.ofNat many) (Int32.ofNat b) (Int32.ofNat more) (Int32.ofNat k) M = _
            unfold m_Mo_compare_3b m_Mo_compare_37
            rw [if_neg (by rw [i_le_of (by omega) (by omega)]; omega), if_neg (by rw [i_le_of (by omega) (by omega)]; omega), e1, e2, ld_of q2 (by omega), ld_of p2 (by omega), q1, p1]
            simp only [Option.bind_some]
            rw [if_pos (by rw [i_eq_of (by omega) (by omega)]; exact hxy), if_neg (by rw [i_eq_of (by omega) (by omega)]; omega), if_pos (by rw [i_eq_of (by omega) (by omega)]; omega)]
          · rw [i_sub (by rw [i_of (by omega), i_of (by omega)]; omega) (by rw [i_of (by omega), i_of (by omega)]; omega), i_of (by omega), i_of (by omega), List.cons_lt_cons_iff]
            constructor
            · intro h; exact Or.inl (by omega)
            · intro h; rcases h with h | h
              · omega
              · exact absurd h.1 hxy
          · rw [i_sub (by rw [i_of (by omega), i_of (by omega)]; omega) (by rw [i_of (by omega), i_of (by omega)]; omega), i_of (by omega), i_of (by omega)]
            constructor
            · intro h; omega
            · intro h; cases h; exact absurd rfl hxy
/-- compare: before, the same, behind, as the rows of items are -/
theorem r_compare {M : MS} {a b : Nat} {t u : List Nat} (ht : At M 100 a t) (hu : At M 100 b u) (h1 : sm t) (h2 : sm u) (hb1 : a + t.length < 1073741824) (hb2 : b + u.length < 1073741824) :
    ∃ v, m_Mo_compare (Int32.ofNat a) (Int32.ofNat t.length) (Int32.ofNat b) (Int32.ofNat u.length) M = some (M, v) ∧ (v.toInt < 0 ↔ t < u) ∧ (v.toInt = 0 ↔ t = u) := by
  unfold m_Mo_compare m_Mo_compare_3
  exact r_compare3 hb1 hb2 t u 0 FU (by omega) (by omega) ht hu h1 h2 (by unfold FU; omega)
theorem r_same16 {M : MS} {a b i j many : Nat} (hb1 : i + many < 1073741824) (hb2 : j + many < 1073741824) : ∀ (t u : List Nat) (k F : Nat), many = k + t.length → u.length = t.length → At M a (i + k) t → At M b (j + k) u → sm t → sm u → t.length < F →
    fx (fun (k : Nat × Int32 × Int32 × Nat × Int32 × Int32 × Int32 × MS → Option (MS × Int32)) (i : Nat × Int32 × Int32 × Nat × Int32 × Int32 × Int32 × MS) => m_Mo_same_16b k i.1 i.2.1 i.2.2.1 i.2.2.2.1 i.2.2.2.2.1 i.2.2.2.2.2.1 i.2.2.2.2.2.2.1 i.2.2.2.2.2.2.2) F (a, Int32.ofNat i, Int32.ofNat many, b, Int32.ofNat j, 1, Int32.ofNat k, M) = some (M, if t = u then 1 else 0) := by
  intro t
  induction t with
  | nil =>
    intro u k F h1 h2 h3 h4 h5 h6 h7
    rw [List.length_nil] at h1 h2
    rw [List.length_eq_zero_iff.mp h2]
    cases F with
    | zero => simp at h7
    | succ F =>
      show m_Mo_same_16b _ a (Int32.ofNat i) (Int32.ofNat many) b (Int32.ofNat j) 1 (Int32.ofNat k) M = _
      unfold m_Mo_same_16b
      rw [if_pos (by rw [i_le_of (by omega) (by omega)]; omega)]
      rfl
  | cons x t ih =>
    intro u k F h1 h2 h3 h4 h5 h6 h7
    rw [List.length_cons] at h1 h2 h7
    cases u with
    | nil => simp at h2
    | cons y u =>
      rw [List.length_cons] at h2
      obtain ⟨q1, q2, q3⟩ := h3.cons
      obtain ⟨p1, p2, p3⟩ := h4.cons
      have hx := h5 x List.mem_cons_self
      have hy := h6 y List.mem_cons_self
      have e1 : Int32.ofNat i + Int32.ofNat k = Int32.ofNat (i + k) := i_add_of i k
      have e2 : Int32.ofNat j + Int32.ofNat k = Int32.ofNat (j + k) := i_add_of j k
      cases F with
      | zero => omega
      | succ F =>
        show m_Mo_same_16b _ a (Int32.ofNat i) (Int32.ofNat many) b (Int32.ofNat j) 1 (Int32.ofNat k) M = _
        by_cases hxy : x = y
        · subst hxy
          unfold m_Mo_same_16b
          rw [if_neg (by rw [i_le_of (by omega) (by omega)]; omega), if_neg (by decide), e1, e2, ld_of q2 (by omega), ld_of p2 (by omega), q1, p1]
          simp only [Option.bind_some]
          rw [if_neg (by simp), show Int32.ofNat k + 1 = Int32.ofNat (k + 1) from i_add_of k 1]
          refine (ih u (k + 1) F (by omega) (by omega) (by rw [← Nat.add_assoc]; exact q3) (by rw [← Nat.add_assoc]; exact p3) (fun z hz => h5 z (List.mem_cons_of_mem _ hz)) (fun z hz => h6 z (List.mem_cons_of_mem _ hz)) (by omega)).trans ?_
          by_cases htu : t = u
          · rw [if_pos htu, if_pos (by rw [htu])]
          · rw [if_neg htu, if_neg (fun q => htu (by cases q; rfl))]
        · unfold m_Mo_same_16b
          rw [if_neg (by rw [i_le_of (by omega) (by omega)]; omega), if_neg (by decide), e1, e2, ld_of q2 (by omega), ld_of p2 (by omega), q1, p1]
          simp only [Option.bind_some]
          rw [if_pos (by rw [i_eq_of (by omega) (by omega)]; exact hxy), if_neg (fun q => hxy (by cases q; rfl))]
          cases F with
          | zero => omega
          | succ F =>
            show m_Mo_same_16b _ a (Int32.ofNat i) (Int32.ofNat many) b (Int32.ofNat j) 0 (Int32.ofNat k + 1) M = _
            unfold m_Mo_same_16b
            split
            · rfl
            · rfl
/-- same: whether two terms written out are the same -/
theorem r_same {M : MS} {a b i j : Nat} {t u : List Nat} (ha : x_kd a = 20) (hb : x_kd b = 20) (ht : At M a i t) (hu : At M b j u) (h1 : sm t) (h2 : sm u) (hb1 : i + t.length < 1073741824) (hb2 : j + u.length < 1073741824) :
    m_Mo_same a (Int32.ofNat i) (Int32.ofNat t.length) b (Int32.ofNat j) (Int32.ofNat u.length) M = some (M, if t = u then 1 else 0) := by
  unfold m_Mo_same
  rw [if_pos ha, if_pos hb]
  by_cases hl : t.length = u.length
  · rw [if_neg (by rw [hl]; simp)]
    exact r_same16 hb1 (by omega) t u 0 FU (by omega) hl.symm ht hu h1 h2 (by unfold FU; omega)
  · rw [if_pos (by rw [i_eq_of (by omega) (by omega)]; exact hl), if_neg (fun q => hl (by rw [q]))]
    show m_Mo_same_16b _ a (Int32.ofNat i) (Int32.ofNat t.length) b (Int32.ofNat j) 0 0 M = _
    unfold m_Mo_same_16b
    split
    · rfl
    · rfl
