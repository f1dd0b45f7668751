/-! STEP 2: the reference's order, the loop that makes room -/
/-- the parts' rows with the places above m and up to n moved up by one -/
def shf (M : MS) (m n : Nat) : MS := (fun a => if a = 106 ∨ a = 107 then (fun p => if m < p ∧ p ≤ n then M.1 a (p - 1) else M.1 a p) else M.1 a, M.2)
theorem gA_shf {M : MS} {m n : Nat} (a p : Nat) : gA (shf M m n) a p = if (a = 106 ∨ a = 107) ∧ m < p ∧ p ≤ n then gA M a (p - 1) else gA M a p := by
  show (if a = 106 ∨ a = 107 then (fun p => if m < p ∧ p ≤ n then M.1 a (p - 1) else M.1 a p) else M.1 a) p = _
  by_cases h : a = 106 ∨ a = 107
  · rw [if_pos h]
    by_cases h2 : m < p ∧ p ≤ n
    · have e : (a = 106 ∨ a = 107) ∧ m < p ∧ p ≤ n := ⟨h, h2⟩
      rw [if_pos e]
      exact if_pos h2
    · have e : ¬ ((a = 106 ∨ a = 107) ∧ m < p ∧ p ≤ n) := fun q => h2 q.2
      rw [if_neg e]
      exact if_neg h2
  · rw [if_neg h, if_neg (fun q => h q.1)]
    rfl
theorem shf_nil (M : MS) (n : Nat) : shf M n n = M := by
  apply MS_ext
  · intro a p
    rw [gA_shf, if_neg (fun q => by omega)]
  · rfl
theorem shf_step {M : MS} {m n : Nat} (hm : 0 < m) (hmn : m ≤ n) : sA (sA (shf M m n) 106 m (gA (shf M m n) 106 (m - 1))) 107 m (gA (shf M m n) 107 (m - 1)) = shf M (m - 1) n := by
  have e6 : gA (shf M m n) 106 (m - 1) = gA M 106 (m - 1) := by
    rw [gA_shf]
    exact if_neg (fun q => by omega)
  have e7 : gA (shf M m n) 107 (m - 1) = gA M 107 (m - 1) := by
    rw [gA_shf]
    exact if_neg (fun q => by omega)
  rw [e6, e7]
  apply MS_ext
  · intro a p
    rw [gA_sA, gA_sA, gA_shf (m := m), gA_shf (m := m - 1)]
    by_cases h7 : a = 107 ∧ p = m
    · obtain ⟨rfl, rfl⟩ := h7
      have q1 : (107 = 107 ∧ p = p) := ⟨rfl, rfl⟩
      have q2 : (107 = 106 ∨ 107 = 107) ∧ p - 1 < p ∧ p ≤ n := ⟨Or.inr rfl, by omega, hmn⟩
      rw [if_pos q1, if_pos q2]
    · rw [if_neg h7]
      by_cases h6 : a = 106 ∧ p = m
      · obtain ⟨rfl, rfl⟩ := h6
        have q1 : (106 = 106 ∧ p = p) := ⟨rfl, rfl⟩
        have q2 : (106 = 106 ∨ 106 = 107) ∧ p - 1 < p ∧ p ≤ n := ⟨Or.inl rfl, by omega, hmn⟩
        rw [if_pos q1, if_pos q2]
      · rw [if_neg h6]
        by_cases h : (a = 106 ∨ a = 107) ∧ m < p ∧ p ≤ n
        · have q2 : (a = 106 ∨ a = 107) ∧ m - 1 < p ∧ p ≤ n := ⟨h.1, by omega, h.2.2⟩
          rw [if_pos h, if_pos q2]
        · have q2 : ¬ ((a = 106 ∨ a = 107) ∧ m - 1 < p ∧ p ≤ n) := fun q => by
            have hp : p = m := Classical.byContradiction (fun hp => h ⟨q.1, by omega, q.2.2⟩)
            rcases q.1 with e | e
            · exact h6 ⟨e, hp⟩
            · exact h7 ⟨e, hp⟩
          rw [if_neg h, if_neg q2]
  · rfl
theorem r_order114 {M : MS} {k4 : Int32 × Int32 × Int32 × MS → Option (MS × Int32)} {l1 l3 l4 l5 : Int32} {left j : Nat} (h6 : gL M 106 = 4000) (h7 : gL M 107 = 4000) (hl : left < 4000) (hj : j ≤ left) : ∀ (d m F : Nat), m = j + d → m ≤ left → d < F →
    fx (fun (k : Int32 × Int32 × Int32 × Int32 × Int32 × Int32 × Int32 × MS → Option (MS × Int32)) (i : Int32 × Int32 × Int32 × Int32 × Int32 × Int32 × Int32 × MS) => m_Mo_order_114b k4 k i.1 i.2.1 i.2.2.1 i.2.2.2.1 i.2.2.2.2.1 i.2.2.2.2.2.1 i.2.2.2.2.2.2.1 i.2.2.2.2.2.2.2) F (l1, Int32.ofNat left, l3, l4, l5, Int32.ofNat j, Int32.ofNat m, shf M m left) = k4 (l1, Int32.ofNat (left + 1), l3 + 1, sA (sA (shf M j left) 106 j l4) 107 j l5) := by
  intro d
  induction d with
  | zero =>
    intro m F h1 h2 h3
    have e : m = j := by omega
    subst e
    cases F with
    | zero => omega
    | succ F =>
      show m_Mo_order_114b k4 _ l1 (Int32.ofNat left) l3 l4 l5 (Int32.ofNat m) (Int32.ofNat m) (shf M m left) = _
      unfold m_Mo_order_114b m_Mo_order_159
      rw [if_pos (by rw [i_le_of (by omega) (by omega)]; omega), st_of (by show m < gL M 106; omega) (by omega)]
      simp only [Option.bind_some]
      rw [st_of (by show m < gL M 107; omega) (by omega)]
      simp only [Option.bind_some]
      rw [show Int32.ofNat left + 1 = Int32.ofNat (left + 1) from i_add_of left 1]
  | succ d ih =>
    intro m F h1 h2 h3
    cases F with
    | zero => omega
    | succ F =>
      show m_Mo_order_114b k4 _ l1 (Int32.ofNat left) l3 l4 l5 (Int32.ofNat j) (Int32.ofNat m) (shf M m left) = _
      unfold m_Mo_order_114b
      have e1 : Int32.ofNat m - 1 = Int32.ofNat (m - 1) := i_sub_of (b := 1) (by omega) (by omega)
      have e2 : Int32.ofNat m + -1 = Int32.ofNat (m - 1) := by
        apply Int32.toInt_inj.mp
        rw [i_add (by rw [i_of (by omega), i_m1]; omega) (by rw [i_of (by omega), i_m1]; omega), i_of (by omega), i_of (by omega), i_m1]
        omega
      rw [if_neg (by rw [i_le_of (by omega) (by omega)]; omega), e1, ld_of (by show m - 1 < gL M 106; omega) (by omega)]
      simp only [Option.bind_some]
      rw [st_of (by show m < gL M 106; omega) (by omega)]
      simp only [Option.bind_some]
      rw [ld_of (by show m - 1 < gL M 107; omega) (by omega)]
      simp only [Option.bind_some]
      rw [st_of (by show m < gL M 107; omega) (by omega)]
      simp only [Option.bind_some]
      rw [gA_sAn (a := 106) (n := 107) (by decide), shf_step (by omega) h2, e2]
      exact ih (m - 1) F (by omega) (by omega) (by omega)
