/-! STEP 2: the reference's cat, whole -/
theorem wf_leaf_eq {x : Nat} {r : List Nat} (h : wf (x :: r)) (hx : ar x = 0) : r = [] := by
  have h : cn (x :: r) = some 1 := h
  rw [cn_cons] at h
  cases h1 : cn r with
  | none => rw [h1] at h; cases h
  | some k =>
    rw [h1] at h
    simp only [Option.bind_some] at h
    split at h
    · simp only [Option.some.injEq] at h
      have : k = 0 := by omega
      subst this
      exact cn_zero h1
    · cases h
theorem r_cat {M : MS} {l1 l4 i j : Nat} {a b : List Nat} (hk1 : x_kd l1 = 20) (hk4 : x_kd l4 = 20) (h1n : l1 ≠ 101) (h4n : l4 ≠ 101) (wa : wf a) (wb : wf b) (sa : sm a) (sb : sm b) (h5 : ∀ x ∈ a, x % 8 = 3 → x = 3) (hA : At M l1 i a) (hB : At M l4 j b) (hf : a.length + b.length + 1 ≤ gL M 101) (hb1 : i + a.length < 1073741824) (hb2 : j + b.length < 1073741824) (hb3 : a.length + b.length + 1 < 1073741824) :
    m_Mo_cat l1 (Int32.ofNat i) (Int32.ofNat a.length) l4 (Int32.ofNat j) (Int32.ofNat b.length) M = some (wr M 101 0 (catS a b), Int32.ofNat (catS a b).length) := by
  cases ha : a with
  | nil => exact absurd ha (wf_ne wa)
  | cons x a' =>
  cases hbb : b with
  | nil => exact absurd hbb (wf_ne wb)
  | cons y b' =>
  have qa : gA M l1 i = Int32.ofNat x ∧ i < gL M l1 := by rw [ha] at hA; exact ⟨hA.cons.1, hA.cons.2.1⟩
  have qb : gA M l4 j = Int32.ofNat y ∧ j < gL M l4 := by rw [hbb] at hB; exact ⟨hB.cons.1, hB.cons.2.1⟩
  have hx : x < 1048576 := sa x (by rw [ha]; exact List.mem_cons_self)
  have hy : y < 1048576 := sb y (by rw [hbb]; exact List.mem_cons_self)
  have z0 : (0 : Int32) = Int32.ofNat 0 := rfl
  have one0 : (1 : Int32) = Int32.ofNat 1 := rfl
  have w1 : ∀ q : Nat, sA M 101 0 (Int32.ofNat q) = wr M 101 0 [q] := fun q => by
    have e := wr_snoc (M := M) (b := 101) (j := 0) (x := q) (t := [])
    rw [wr_nil, Nat.zero_add] at e
    exact e
  have h14 : m_Mo_cat_14 l1 (Int32.ofNat i) (Int32.ofNat a.length) l4 (Int32.ofNat j) (Int32.ofNat b.length) M = some (wr M 101 0 [0], Int32.ofNat 1) := by
    unfold m_Mo_cat_14 m_Mo_cat_19
    rw [if_neg (by decide), z0, st_of (by omega) (by omega)]
    simp only [Option.bind_some]
    rw [w1 0]
    rfl
  have xa : x = 0 → a = [0] := fun q => by
    rw [ha] at wa
    rw [ha, wf_leaf_eq wa (by rw [q]; rfl), q]
  have xb : y = 0 → b = [0] := fun q => by
    rw [hbb] at wb
    rw [hbb, wf_leaf_eq wb (by rw [q]; rfl), q]
  have xa1 : x = 1 → a = [1] := fun q => by
    rw [ha] at wa
    rw [ha, wf_leaf_eq wa (by rw [q]; rfl), q]
  have xb1 : y = 1 → b = [1] := fun q => by
    rw [hbb] at wb
    rw [hbb, wf_leaf_eq wb (by rw [q]; rfl), q]
  rw [← ha, ← hbb]
  unfold m_Mo_cat
  rw [if_pos hk1, if_pos hk4, ld_of qa.2 (by omega), qa.1]
  simp only [Option.bind_some]
  by_cases x0 : x = 0
  · rw [if_pos (by rw [x0]; rfl), h14]
    have : catS a b = [0] := if_pos (Or.inl (xa x0))
    rw [this]
    rfl
  · rw [if_neg (by rw [z0, i_eq_of (by omega) (by omega)]; exact x0), ld_of qb.2 (by omega), qb.1]
    simp only [Option.bind_some]
    by_cases y0 : y = 0
    · rw [if_neg (by rw [y0]; simp), h14]
      have : catS a b = [0] := if_pos (Or.inr (xb y0))
      rw [this]
      rfl
    · rw [if_pos (by rw [z0, i_eq_of (by omega) (by omega)]; exact y0)]
      have na : a ≠ [0] := fun q => x0 (by rw [ha] at q; cases q; rfl)
      have nb0 : b ≠ [0] := fun q => y0 (by rw [hbb] at q; cases q; rfl)
      have nn : ¬ (a = [0] ∨ b = [0]) := fun q => q.elim na nb0
      unfold m_Mo_cat_19
      rw [if_pos rfl, ld_of qb.2 (by omega), qb.1]
      simp only [Option.bind_some]
      have key : ∀ s0 l9 : Int32, ∃ pre las, a = pre ++ las ∧ wf las ∧ (∀ (b : List Nat) (m : Nat), a.length ≤ m → catF m a b = pre ++ 3 :: (las ++ b)) ∧ m_Mo_cat_71 (l1, Int32.ofNat i, Int32.ofNat a.length, l4, Int32.ofNat j, Int32.ofNat b.length, s0, l9, 0, Int32.ofNat i, M) = m_Mo_cat_103 (l1, Int32.ofNat i, Int32.ofNat a.length, l4, Int32.ofNat j, Int32.ofNat b.length, s0, l9, 0, Int32.ofNat (i + pre.length), Int32.ofNat i, M) := fun s0 l9 => by
        obtain ⟨pre, las, s1, s2, s3, s4⟩ := r_cat71 (M := M) (l4 := l4) (i := i) (l3 := Int32.ofNat a.length) (l5 := Int32.ofNat j) (l6 := Int32.ofNat b.length) (l8 := s0) (l9 := l9) (l10 := 0) hk1 a.length a [] FU (Nat.le_refl _) (by unfold FU; omega) wa sa h5 (by simpa using hA) (by simpa using hb1)
        simp only [List.length_nil, Nat.add_zero] at s4
        exact ⟨pre, las, s1, s2, s3, s4⟩
      by_cases x1 : x = 1
      · have ea := xa1 x1
        by_cases y1 : y = 1
        · have eb := xb1 y1
          rw [if_neg (by rw [y1]; simp)]
          unfold m_Mo_cat_49
          rw [ld_of qa.2 (by omega), qa.1]
          simp only [Option.bind_some]
          rw [if_neg (by rw [x1]; simp)]
          obtain ⟨pre, las, s1, s2, s3, s4⟩ := key 1 1
          rw [s4]
          have hc : catS a b = [1] := by
            unfold catS
            rw [if_neg nn, if_pos ea, eb]
          rw [hc]
          have la : a.length = 1 := by rw [ea]; rfl
          have lb : b.length = 1 := by rw [eb]; rfl
          show m_Mo_cat_103b _ l1 (Int32.ofNat i) (Int32.ofNat a.length) l4 (Int32.ofNat j) (Int32.ofNat b.length) 1 1 0 (Int32.ofNat (i + pre.length)) (Int32.ofNat i) M = _
          unfold m_Mo_cat_103b
          rw [i_add_of, if_neg (by rw [i_le_of (by omega) (by omega)]; omega), if_pos (by decide)]
          show m_Mo_cat_163b _ l4 (Int32.ofNat j) (Int32.ofNat b.length) 1 1 0 (Int32.ofNat j) M = _
          unfold m_Mo_cat_163b m_Mo_cat_199 m_Mo_cat_216
          rw [i_add_of, if_neg (by rw [i_le_of (by omega) (by omega)]; omega), if_pos (by decide), if_neg (by decide), if_neg (by decide), z0, one0, st_of (by omega) (by omega), w1 1]
          simp only [Option.bind_some]
          rw [if_neg (by decide), if_neg (by decide)]
          rfl
        · rw [if_pos (by rw [one0, i_eq_of (by omega) (by omega)]; exact y1)]
          unfold m_Mo_cat_49
          rw [ld_of qa.2 (by omega), qa.1]
          simp only [Option.bind_some]
          rw [if_neg (by rw [x1]; simp)]
          obtain ⟨pre, las, s1, s2, s3, s4⟩ := key 0 1
          rw [s4]
          have hc : catS a b = b := by
            unfold catS
            rw [if_neg nn, if_pos ea]
          rw [hc]
          have la : a.length = 1 := by rw [ea]; rfl
          show m_Mo_cat_103b _ l1 (Int32.ofNat i) (Int32.ofNat a.length) l4 (Int32.ofNat j) (Int32.ofNat b.length) 0 1 0 (Int32.ofNat (i + pre.length)) (Int32.ofNat i) M = _
          unfold m_Mo_cat_103b
          rw [i_add_of, if_neg (by rw [i_le_of (by omega) (by omega)]; omega), if_pos (by decide)]
          have h9 := r_cat163 (M := M) (l9 := 1) h4n [] b hB (by simp; omega) hb2 (by simp; omega) b [] FU rfl (by unfold FU; omega)
          simp only [List.nil_append, List.length_nil, Nat.zero_add, Nat.add_zero, wr_nil] at h9
          exact h9
      · have na1 : a ≠ [1] := fun q => x1 (by rw [ha] at q; cases q; rfl)
        by_cases y1 : y = 1
        · have eb := xb1 y1
          rw [if_neg (by rw [y1]; simp)]
          unfold m_Mo_cat_49
          rw [ld_of qa.2 (by omega), qa.1]
          simp only [Option.bind_some]
          rw [if_pos (by rw [one0, i_eq_of (by omega) (by omega)]; exact x1)]
          obtain ⟨pre, las, s1, s2, s3, s4⟩ := key 1 0
          rw [s4]
          have hc : catS a b = a := by
            unfold catS
            rw [if_neg nn, if_neg na1, if_pos eb]
          rw [hc]
          have hp : pre.length ≤ a.length := by rw [s1, List.length_append]; omega
          have lb : b.length = 1 := by rw [eb]; rfl
          have h9 := r_cat103b (M := M) (l4 := l4) (j := j) (more := b.length) (las0 := i + pre.length) (l8 := 1) h1n a hA hb1 (by omega) a [] [] FU rfl (by unfold FU; omega) (by simp; omega) (by simp; omega) (Or.inl (by decide))
          simp only [List.nil_append, List.length_nil, Nat.add_zero, wr_nil] at h9
          refine Eq.trans h9 ?_
          show m_Mo_cat_163b _ l4 (Int32.ofNat j) (Int32.ofNat b.length) 1 0 (Int32.ofNat a.length) (Int32.ofNat j) (wr M 101 0 a) = _
          unfold m_Mo_cat_163b m_Mo_cat_199 m_Mo_cat_216
          rw [i_add_of, if_neg (by rw [i_le_of (by omega) (by omega)]; omega), if_pos (by decide), if_pos rfl, if_pos rfl]
        · rw [if_pos (by rw [one0, i_eq_of (by omega) (by omega)]; exact y1)]
          unfold m_Mo_cat_49
          rw [ld_of qa.2 (by omega), qa.1]
          simp only [Option.bind_some]
          rw [if_pos (by rw [one0, i_eq_of (by omega) (by omega)]; exact x1)]
          obtain ⟨pre, las, s1, s2, s3, s4⟩ := key 0 0
          rw [s4]
          have nb1 : b ≠ [1] := fun q => y1 (by rw [hbb] at q; cases q; rfl)
          have hc : catS a b = pre ++ 3 :: (las ++ b) := by
            unfold catS
            rw [if_neg nn, if_neg na1, if_neg nb1]
            exact s3 b a.length (Nat.le_refl _)
          have hlen : a.length = pre.length + las.length := by rw [s1, List.length_append]
          rw [hc]
          have h9 := r_cat103a (M := M) (l4 := l4) (j := j) (more := b.length) (las0 := i + pre.length) h1n a las hA hb1 (by omega) (wf_ne s2) pre [] [] FU s1 (by unfold FU; omega) (by simp; omega) (by simp; omega) (by simp)
          simp only [List.nil_append, List.length_nil, Nat.add_zero, wr_nil] at h9
          refine Eq.trans h9 ?_
          have h10 := r_cat163 (M := M) (l9 := 0) h4n (pre ++ 3 :: las) b hB (by simp; omega) hb2 (by simp; omega) b [] FU rfl (by unfold FU; omega)
          simp only [List.append_nil, List.length_nil, Nat.add_zero] at h10
          rw [show pre ++ 3 :: (las ++ b) = (pre ++ 3 :: las) ++ b by simp]
          rw [show ((pre ++ 3 :: las) ++ b).length = (pre ++ 3 :: las).length + b.length from List.length_append]
          exact h10
