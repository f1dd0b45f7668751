/-! STEP 2: the reference's not -/
theorem At.get {M : MS} {a i x : Nat} {u v : List Nat} (h : At M a i (u ++ x :: v)) : gA M a (i + u.length) = Int32.ofNat x ∧ i + u.length < gL M a := by
  have h2 := h.2 u.length (by simp)
  refine ⟨by rw [h2]; simp [List.getD_eq_getElem?_getD], ?_⟩
  have := h.1
  simp at this
  omega
theorem r_not13 {M : MS} {at0 : Nat} (a : List Nat) (ha : At M 100 at0 (6 :: a)) (hf : a.length ≤ gL M 101) (hb : at0 + a.length + 1 < 1073741824) :
    ∀ (v u : List Nat) (F : Nat), a = u ++ v → v.length < F → fx (fun (k : Int32 × Int32 × Int32 × MS → Option (MS × Int32)) (i : Int32 × Int32 × Int32 × MS) => m_Mo_not_13b k i.1 i.2.1 i.2.2.1 i.2.2.2) F (Int32.ofNat at0, Int32.ofNat (a.length + 1), Int32.ofNat (u.length + 1), wr M 101 0 u) = some (wr M 101 0 a, Int32.ofNat a.length) := by
  intro v
  induction v with
  | nil =>
    intro u F h1 h2
    rw [List.append_nil] at h1
    subst h1
    cases F with
    | zero => simp at h2
    | succ F =>
      show m_Mo_not_13b _ (Int32.ofNat at0) (Int32.ofNat (a.length + 1)) (Int32.ofNat (a.length + 1)) (wr M 101 0 a) = _
      unfold m_Mo_not_13b
      rw [if_pos (by rw [i_le_of (by omega) (by omega)]; omega), show (1 : Int32) = Int32.ofNat 1 from rfl, i_sub_of (by omega) (by omega)]
      rfl
  | cons x v ih =>
    intro u F h1 h2
    rw [List.length_cons] at h2
    have hlen : a.length = u.length + (v.length + 1) := by rw [h1]; simp
    cases F with
    | zero => omega
    | succ F =>
      show m_Mo_not_13b _ (Int32.ofNat at0) (Int32.ofNat (a.length + 1)) (Int32.ofNat (u.length + 1)) (wr M 101 0 u) = _
      unfold m_Mo_not_13b
      have hg : At (wr M 101 0 u) 100 at0 ((6 :: u) ++ x :: v) := At_wr_ne (by decide) (by rw [h1] at ha; exact ha)
      obtain ⟨g1, g2⟩ := hg.get
      rw [List.length_cons] at g1 g2
      rw [if_neg (by rw [i_le_of (by omega) (by omega)]; omega), i_add_of, ld_of g2 (by omega), g1]
      simp only [Option.bind_some]
      rw [show Int32.ofNat (u.length + 1) - 1 = Int32.ofNat u.length from (i_sub_of (b := 1) (by omega) (by omega)), st_of (by show u.length < gL M 101; omega) (by omega)]
      simp only [Option.bind_some]
      have e := wr_snoc (M := M) (b := 101) (j := 0) (x := x) (t := u)
      rw [Nat.zero_add] at e
      rw [e, show Int32.ofNat (u.length + 1) + 1 = Int32.ofNat ((u ++ [x]).length + 1) by rw [List.length_append]; exact i_add_of (u.length + 1) 1]
      exact ih (u ++ [x]) F (by rw [h1]; simp) (by omega)
theorem r_not54 {M : MS} {at0 : Nat} (a : List Nat) (ha : At M 100 at0 a) (hf : a.length + 1 ≤ gL M 101) (hb : at0 + a.length + 1 < 1073741824) :
    ∀ (v u : List Nat) (F : Nat), a = u ++ v → v.length < F → fx (fun (k : Int32 × Int32 × Int32 × MS → Option (MS × Int32)) (i : Int32 × Int32 × Int32 × MS) => m_Mo_not_54b k i.1 i.2.1 i.2.2.1 i.2.2.2) F (Int32.ofNat at0, Int32.ofNat a.length, Int32.ofNat u.length, wr M 101 0 (6 :: u)) = some (wr M 101 0 (6 :: a), Int32.ofNat (a.length + 1)) := by
  intro v
  induction v with
  | nil =>
    intro u F h1 h2
    rw [List.append_nil] at h1
    subst h1
    cases F with
    | zero => simp at h2
    | succ F =>
      show m_Mo_not_54b _ (Int32.ofNat at0) (Int32.ofNat a.length) (Int32.ofNat a.length) (wr M 101 0 (6 :: a)) = _
      unfold m_Mo_not_54b
      rw [if_pos (by rw [i_le_of (by omega) (by omega)]; omega), show Int32.ofNat a.length + 1 = Int32.ofNat (a.length + 1) from i_add_of a.length 1]
  | cons x v ih =>
    intro u F h1 h2
    rw [List.length_cons] at h2
    have hlen : a.length = u.length + (v.length + 1) := by rw [h1]; simp
    cases F with
    | zero => omega
    | succ F =>
      show m_Mo_not_54b _ (Int32.ofNat at0) (Int32.ofNat a.length) (Int32.ofNat u.length) (wr M 101 0 (6 :: u)) = _
      unfold m_Mo_not_54b
      have hg : At (wr M 101 0 (6 :: u)) 100 at0 (u ++ x :: v) := At_wr_ne (by decide) (by rw [h1] at ha; exact ha)
      obtain ⟨g1, g2⟩ := hg.get
      rw [if_neg (by rw [i_le_of (by omega) (by omega)]; omega), i_add_of, ld_of g2 (by omega), g1]
      simp only [Option.bind_some]
      rw [show Int32.ofNat u.length + 1 = Int32.ofNat (u.length + 1) from i_add_of u.length 1, st_of (by show u.length + 1 < gL M 101; omega) (by omega)]
      simp only [Option.bind_some]
      have e := wr_snoc (M := M) (b := 101) (j := 0) (x := x) (t := 6 :: u)
      rw [Nat.zero_add, List.length_cons] at e
      rw [e, List.cons_append, show u.length + 1 = (u ++ [x]).length by rw [List.length_append]; rfl]
      exact ih (u ++ [x]) F (by rw [h1]; simp) (by omega)
/-- not: the other words, written into t -/
theorem r_not {M : MS} {at0 : Nat} {a : List Nat} (hw : wf a) (hs : sm a) (ha : At M 100 at0 a) (hf : a.length + 1 ≤ gL M 101) (hb : at0 + a.length + 1 < 1073741824) : m_Mo_not (Int32.ofNat at0) (Int32.ofNat a.length) M = some (wr M 101 0 (notS a), Int32.ofNat (notS a).length) := by
  cases a with
  | nil => exact absurd rfl (wf_ne hw)
  | cons x a =>
    obtain ⟨q1, q2, q3⟩ := ha.cons
    have hx := hs x List.mem_cons_self
    rw [List.length_cons] at hf hb
    unfold m_Mo_not
    rw [ld_of q2 (by omega), q1]
    simp only [Option.bind_some]
    rw [show (6 : Int32) = Int32.ofNat 6 from rfl]
    by_cases h6 : x = 6
    · subst h6
      rw [if_neg (by simp)]
      have h := r_not13 a ha (by omega) (by omega) a [] FU rfl (by unfold FU; omega)
      rw [wr_nil] at h
      unfold m_Mo_not_13
      exact h
    · rw [if_pos (by rw [i_eq_of (by omega) (by omega)]; exact h6), show (0 : Int32) = Int32.ofNat 0 from rfl, st_of (by omega) (by omega)]
      simp only [Option.bind_some]
      have h := r_not54 (x :: a) ha (by rw [List.length_cons]; omega) (by rw [List.length_cons]; omega) (x :: a) [] FU rfl (by unfold FU; rw [List.length_cons]; omega)
      have e := wr_snoc (M := M) (b := 101) (j := 0) (x := 6) (t := [])
      rw [wr_nil, Nat.zero_add] at e
      have e2 : notS (x :: a) = 6 :: x :: a := if_neg h6
      rw [e2]
      unfold m_Mo_not_54
      rw [show sA M 101 0 (Int32.ofNat 6) = wr M 101 0 [6] from e]
      exact h
