/-! STEP 2: the reference's cat -/
theorem r_cat103a {M : MS} {l1 l4 i j las0 more : Nat} (hne : l1 ≠ 101) (a las : List Nat) (hA : At M l1 i a) (hb : i + a.length < 1073741824) (hl : las0 < 1073741824) (hlas : las ≠ []) :
    ∀ (v u o : List Nat) (F : Nat), a = u ++ (v ++ las) → v.length + las.length < F → o.length + v.length + las.length + 1 ≤ gL M 101 → o.length + v.length + las.length + 1 < 1073741824 → las0 = i + u.length + v.length → fx (fun (k : Nat × Int32 × Int32 × Nat × Int32 × Int32 × Int32 × Int32 × Int32 × Int32 × Int32 × MS → Option (MS × Int32)) (i : Nat × Int32 × Int32 × Nat × Int32 × Int32 × Int32 × Int32 × Int32 × Int32 × Int32 × MS) => m_Mo_cat_103b k i.1 i.2.1 i.2.2.1 i.2.2.2.1 i.2.2.2.2.1 i.2.2.2.2.2.1 i.2.2.2.2.2.2.1 i.2.2.2.2.2.2.2.1 i.2.2.2.2.2.2.2.2.1 i.2.2.2.2.2.2.2.2.2.1 i.2.2.2.2.2.2.2.2.2.2.1 i.2.2.2.2.2.2.2.2.2.2.2) F (l1, Int32.ofNat i, Int32.ofNat a.length, l4, Int32.ofNat j, Int32.ofNat more, 0, 0, Int32.ofNat o.length, Int32.ofNat las0, Int32.ofNat (i + u.length), wr M 101 0 o) = m_Mo_cat_163 (l4, Int32.ofNat j, Int32.ofNat more, 0, 0, Int32.ofNat (o ++ (v ++ 3 :: las)).length, Int32.ofNat j, wr M 101 0 (o ++ (v ++ 3 :: las))) := by
  intro v
  induction v with
  | nil =>
    intro u o F h1 h2 h3 h4 h5
    cases las with
    | nil => exact absurd rfl hlas
    | cons y las =>
      rw [List.nil_append] at h1 ⊢
      rw [List.length_nil, List.length_cons] at h2 h3 h4
      rw [List.length_nil] at h5
      have hlen : a.length = u.length + (las.length + 1) := by rw [h1]; simp
      cases F with
      | zero => omega
      | succ F =>
        show m_Mo_cat_103b _ l1 (Int32.ofNat i) (Int32.ofNat a.length) l4 (Int32.ofNat j) (Int32.ofNat more) 0 0 (Int32.ofNat o.length) (Int32.ofNat las0) (Int32.ofNat (i + u.length)) (wr M 101 0 o) = _
        unfold m_Mo_cat_103b
        rw [i_add_of, if_neg (by rw [i_le_of (by omega) (by omega)]; omega), if_neg (by simp), if_neg (by rw [i_eq_of (by omega) (by omega)]; omega), if_neg (by simp), st_of (by show o.length < gL M 101; omega) (by omega)]
        simp only [Option.bind_some]
        have e := wr_snoc (M := M) (b := 101) (j := 0) (x := 3) (t := o)
        rw [Nat.zero_add] at e
        have hA2 : At M l1 i (u ++ y :: las) := by rw [h1] at hA; exact hA
        rw [show sA (wr M 101 0 o) 101 o.length 3 = wr M 101 0 (o ++ [3]) from e, show Int32.ofNat o.length + 1 = Int32.ofNat (o ++ [3]).length by rw [List.length_append]; exact i_add_of o.length 1, r_cat139 (v := las) hne hA2 (by rw [List.length_append, List.length_singleton]; omega) (by omega) (by rw [List.length_append, List.length_singleton]; omega)]
        have h9 := r_cat103b (l4 := l4) (j := j) (more := more) (l8 := 0) hne a hA hb hl las (u ++ [y]) (o ++ [3] ++ [y]) F (by rw [h1]; simp) (by omega) (by simp; omega) (by simp; omega) (Or.inr (by rw [List.length_append, List.length_singleton]; omega))
        rw [show (o ++ [3] ++ [y]) ++ las = o ++ 3 :: y :: las by simp] at h9
        exact h9
  | cons x v ih =>
    intro u o F h1 h2 h3 h4 h5
    rw [List.length_cons] at h2 h3 h4 h5
    have hlen : a.length = u.length + (v.length + 1 + las.length) := by rw [h1]; simp; omega
    cases F with
    | zero => omega
    | succ F =>
      show m_Mo_cat_103b _ l1 (Int32.ofNat i) (Int32.ofNat a.length) l4 (Int32.ofNat j) (Int32.ofNat more) 0 0 (Int32.ofNat o.length) (Int32.ofNat las0) (Int32.ofNat (i + u.length)) (wr M 101 0 o) = _
      unfold m_Mo_cat_103b
      have hA2 : At M l1 i (u ++ x :: (v ++ las)) := by rw [h1] at hA; exact hA
      rw [i_add_of, if_neg (by rw [i_le_of (by omega) (by omega)]; omega), if_neg (by simp), if_pos (by rw [i_eq_of (by omega) (by omega)]; omega), r_cat139 (v := v ++ las) hne hA2 (by omega) (by omega) (by omega)]
      have hih := ih (u ++ [x]) (o ++ [x]) F (by rw [h1]; simp) (by omega) (by rw [List.length_append, List.length_singleton]; omega) (by rw [List.length_append, List.length_singleton]; omega) (by rw [List.length_append, List.length_singleton]; omega)
      rw [show (o ++ [x]) ++ (v ++ 3 :: las) = o ++ (x :: v ++ 3 :: las) by simp] at hih
      exact hih
theorem r_cat71 {M : MS} {l1 l4 i : Nat} {l3 l5 l6 l8 l9 l10 : Int32} (hk : x_kd l1 = 20) : ∀ (n : Nat) (a pre0 : List Nat) (F : Nat), a.length ≤ n → n < F → wf a → sm a → (∀ x ∈ a, x % 8 = 3 → x = 3) → At M l1 (i + pre0.length) a → i + pre0.length + a.length < 1073741824 →
    ∃ pre las, a = pre ++ las ∧ wf las ∧ (∀ (b : List Nat) (m : Nat), a.length ≤ m → catF m a b = pre ++ 3 :: (las ++ b)) ∧ fx (fun (k : Nat × Int32 × Int32 × Nat × Int32 × Int32 × Int32 × Int32 × Int32 × Int32 × MS → Option (MS × Int32)) (i : Nat × Int32 × Int32 × Nat × Int32 × Int32 × Int32 × Int32 × Int32 × Int32 × MS) => m_Mo_cat_71b k i.1 i.2.1 i.2.2.1 i.2.2.2.1 i.2.2.2.2.1 i.2.2.2.2.2.1 i.2.2.2.2.2.2.1 i.2.2.2.2.2.2.2.1 i.2.2.2.2.2.2.2.2.1 i.2.2.2.2.2.2.2.2.2.1 i.2.2.2.2.2.2.2.2.2.2) F (l1, Int32.ofNat i, l3, l4, l5, l6, l8, l9, l10, Int32.ofNat (i + pre0.length), M) = m_Mo_cat_103 (l1, Int32.ofNat i, l3, l4, l5, l6, l8, l9, l10, Int32.ofNat (i + pre0.length + pre.length), Int32.ofNat i, M) := by
  intro n
  induction n with
  | zero =>
    intro a pre0 F h1 h2 h3 h4 h5 h6 h7
    exact absurd (List.length_eq_zero_iff.mp (by omega)) (wf_ne h3)
  | succ n ih =>
    intro a pre0 F h1 h2 h3 h4 h5 h6 h7
    cases F with
    | zero => omega
    | succ F =>
      by_cases h : hd a = 3
      · obtain ⟨p, q, e1, e2, e3, e4⟩ := pts_two h3 h
        subst e4
        rw [List.length_cons, List.length_append] at h1 h7
        obtain ⟨q1, q2, q3⟩ := h6.cons
        obtain ⟨g1, g2⟩ := q3.app
        have hsp : sm p := fun y hy => h4 y (by simp [hy])
        have hsq : sm q := fun y hy => h4 y (by simp [hy])
        obtain ⟨pre, las, s1, s2, s3, s4⟩ := ih q (pre0 ++ 3 :: p) F (by omega) (by omega) e3 hsq (fun y hy => h5 y (by simp [hy])) (by
          rw [show i + (pre0 ++ 3 :: p).length = i + pre0.length + 1 + p.length by simp; omega]
          exact g2) (by simp; omega)
        refine ⟨3 :: (p ++ pre), las, by rw [s1]; simp, s2, fun b m hm => ?_, ?_⟩
        · cases m with
          | zero => simp at hm
          | succ m =>
            unfold catF
            rw [if_pos h, e1]
            show 3 :: (p ++ catF m q b) = _
            rw [s3 b m (by simp at hm; omega)]
            simp
        · show m_Mo_cat_71b _ l1 (Int32.ofNat i) l3 l4 l5 l6 l8 l9 l10 (Int32.ofNat (i + pre0.length)) M = _
          unfold m_Mo_cat_71b m_Mo_sort
          rw [ld_of q2 (by omega), q1]
          simp only [Option.bind_some]
          rw [cal_same]
          simp only [it_and]
          rw [if_neg (by decide), show Int32.ofNat (i + pre0.length) + 1 = Int32.ofNat (i + pre0.length + 1) from i_add_of (i + pre0.length) 1, r_length hk e2 q3 hsp (by omega), cal_same]
          have e5 : Int32.ofNat (i + pre0.length) + (1 + Int32.ofNat p.length) = Int32.ofNat (i + (pre0 ++ 3 :: p).length) := by
            rw [show (1 : Int32) = Int32.ofNat 1 from rfl, i_add_of, i_add_of]
            congr 1
            simp
            omega
          rw [show i + pre0.length + (3 :: (p ++ pre)).length = i + (pre0 ++ 3 :: p).length + pre.length by simp; omega]
          simp only []
          rw [e5]
          exact s4
      · refine ⟨[], a, rfl, h3, fun b m hm => ?_, ?_⟩
        · cases m with
          | zero => exact absurd (List.length_eq_zero_iff.mp (by omega)) (wf_ne h3)
          | succ m =>
            unfold catF
            rw [if_neg h]
            rfl
        · cases a with
          | nil => exact absurd rfl (wf_ne h3)
          | cons x r =>
            obtain ⟨q1, q2, q3⟩ := h6.cons
            have hx := h4 x List.mem_cons_self
            have hx3 : ¬ x % 8 = 3 := fun q => h (h5 x List.mem_cons_self q)
            have hm : x % 8 < 8 := Nat.mod_lt _ (by omega)
            show m_Mo_cat_71b _ l1 (Int32.ofNat i) l3 l4 l5 l6 l8 l9 l10 (Int32.ofNat (i + pre0.length)) M = _
            unfold m_Mo_cat_71b m_Mo_sort
            rw [ld_of q2 (by omega), q1]
            simp only [Option.bind_some]
            rw [cal_same]
            simp only [it_and]
            rw [if_pos (by rw [show (3 : Int32) = Int32.ofNat 3 from rfl, i_eq_of (by omega) (by omega)]; exact hx3)]
            rfl
