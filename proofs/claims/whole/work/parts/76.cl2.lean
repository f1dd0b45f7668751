/-! STEP 2, the class: a row in rising order -/
def insN (x : Nat) (l : List Nat) : List Nat := match l with
  | [] => [x]
  | y :: r => if x < y then x :: y :: r else if x = y then y :: r else y :: insN x r
def SrN (l : List Nat) : Prop := l.Pairwise (fun a b => a < b)
theorem mem_insN {x y : Nat} {l : List Nat} : y ∈ insN x l ↔ y = x ∨ y ∈ l := by
  induction l with
  | nil => simp [insN]
  | cons a r ih =>
    unfold insN
    split
    · simp
    · split
      · rename_i h
        subst h
        simp
      · rw [List.mem_cons, ih, List.mem_cons]
        constructor
        · intro h
          rcases h with h | h | h
          · exact Or.inr (Or.inl h)
          · exact Or.inl h
          · exact Or.inr (Or.inr h)
        · intro h
          rcases h with h | h | h
          · exact Or.inr (Or.inl h)
          · exact Or.inl h
          · exact Or.inr (Or.inr h)
theorem insN_srt {x : Nat} {l : List Nat} (h : SrN l) : SrN (insN x l) := by
  induction l with
  | nil => exact List.pairwise_singleton _ _
  | cons q r ih =>
    have h0 : (q :: r).Pairwise (fun a b => a < b) := h
    rw [List.pairwise_cons] at h0
    obtain ⟨h1, h2⟩ := h0
    unfold insN
    split
    · rename_i hpq
      exact List.pairwise_cons.mpr ⟨fun a ha => by
        rcases List.mem_cons.mp ha with rfl | ha
        · exact hpq
        · have := h1 a ha; omega, h⟩
    · split
      · exact h
      · rename_i n1 n2
        refine List.pairwise_cons.mpr ⟨fun a ha => ?_, ih h2⟩
        rcases mem_insN.mp ha with rfl | ha
        · omega
        · exact h1 a ha
theorem insN_split {x : Nat} (A B : List Nat) (hA : ∀ q ∈ A, q < x) (hB : ∀ q ∈ B, x < q) : insN x (A ++ B) = A ++ x :: B := by
  induction A with
  | nil =>
    cases B with
    | nil => rfl
    | cons b B =>
      show insN x (b :: B) = _
      unfold insN
      rw [if_pos (hB b List.mem_cons_self)]
      rfl
  | cons a A ih =>
    have h1 := hA a List.mem_cons_self
    rw [List.cons_append]
    unfold insN
    rw [if_neg (by omega), if_neg (by omega), ih (fun q hq => hA q (List.mem_cons_of_mem _ hq))]
    rfl
theorem insN_mem {x : Nat} {l : List Nat} (h : SrN l) (hx : x ∈ l) : insN x l = l := by
  induction l with
  | nil => cases hx
  | cons q r ih =>
    have h0 : (q :: r).Pairwise (fun a b => a < b) := h
    rw [List.pairwise_cons] at h0
    obtain ⟨h1, h2⟩ := h0
    unfold insN
    rcases List.mem_cons.mp hx with rfl | hx
    · rw [if_neg (by omega), if_pos rfl]
    · have hqp := h1 x hx
      rw [if_neg (by omega), if_neg (by omega), ih h2 hx]
theorem SrN.ext : ∀ (l k : List Nat), SrN l → SrN k → (∀ q, q ∈ l ↔ q ∈ k) → l = k := by
  intro l
  induction l with
  | nil =>
    intro k _ _ h
    cases k with
    | nil => rfl
    | cons b k => exact absurd ((h b).mpr List.mem_cons_self) (by simp)
  | cons a l ih =>
    intro k h1 h2 h
    cases k with
    | nil => exact absurd ((h a).mp List.mem_cons_self) (by simp)
    | cons b k =>
      have h10 : (a :: l).Pairwise (fun a b => a < b) := h1
      have h20 : (b :: k).Pairwise (fun a b => a < b) := h2
      rw [List.pairwise_cons] at h10 h20
      have hab : a = b := by
        rcases List.mem_cons.mp ((h a).mp List.mem_cons_self) with e | e
        · exact e
        · rcases List.mem_cons.mp ((h b).mpr List.mem_cons_self) with e2 | e2
          · exact e2.symm
          · have := h20.1 a e
            have := h10.1 b e2
            omega
      subst hab
      congr 1
      refine ih k h10.2 h20.2 (fun q => ⟨fun hq => ?_, fun hq => ?_⟩)
      · rcases List.mem_cons.mp ((h q).mp (List.mem_cons_of_mem _ hq)) with e | e
        · have := h10.1 q hq; omega
        · exact e
      · rcases List.mem_cons.mp ((h q).mpr (List.mem_cons_of_mem _ hq)) with e | e
        · have := h20.1 q hq; omega
        · exact e
theorem isR22 : isR 22 23 := Or.inr (Or.inr (Or.inr (Or.inl ⟨rfl, rfl⟩)))
theorem c_addO78 {j n x : Nat} {l2 : Int32} (hjn : j ≤ n) (hx : l2 = Int32.ofNat x) : ∀ (d m : Nat) (M : MS) (F : Nat), m = j + d → m ≤ n → n < gL M 23 → n < 67108864 → gI M 22 1 = Int32.ofNat n → d < F →
    ∃ M1, fx (fun (k : Int32 × Int32 × Int32 × MS → Option (MS × Unit)) (i : Int32 × Int32 × Int32 × MS) => m_Row_addInOrder_78b k i.1 i.2.1 i.2.2.1 i.2.2.2) F (l2, Int32.ofNat j, Int32.ofNat m, M) = some (M1, ()) ∧ (∀ p, gA M1 23 p = if p = j then Int32.ofNat x else if j < p ∧ p ≤ m then gA M 23 (p - 1) else gA M 23 p) ∧ gI M1 22 1 = Int32.ofNat (n + 1) ∧ Fr [23] [(22, 1)] M M1 := by
  subst hx
  intro d
  induction d with
  | zero =>
    intro m M F h1 h2 h3 h4 h5 h6
    have hm : m = j := by omega
    subst hm
    cases F with
    | zero => omega
    | succ F =>
      refine ⟨sI (sA M 23 m (Int32.ofNat x)) 22 1 (Int32.ofNat (n + 1)), ?_, fun p => ?_, ?_, (Fr.stA (by decide)).tr (Fr.stI (by decide))⟩
      · show m_Row_addInOrder_78b _ (Int32.ofNat x) (Int32.ofNat m) (Int32.ofNat m) M = _
        unfold m_Row_addInOrder_78b m_Row_addInOrder_103
        rw [if_pos (Int32.le_refl _), st_of (by omega) (by omega), Option.bind_some, Option.bind_some, show gI (sA M 23 m (Int32.ofNat x)) 22 1 = Int32.ofNat n from h5, i_inc]
      · rw [gA_sI, gA_sA]
        by_cases hp : p = m
        · rw [if_pos ⟨rfl, hp⟩, if_pos hp]
        · rw [if_neg (by omega), if_neg hp, if_neg (by omega)]
      · rw [gI_sI, if_pos ⟨rfl, rfl⟩]
  | succ d ih =>
    intro m M F h1 h2 h3 h4 h5 h6
    cases F with
    | zero => omega
    | succ F =>
      have hfr : Fr [23] [(22, 1)] M (sA M 23 m (gA M 23 (m - 1))) := Fr.stA (by decide)
      obtain ⟨M1, a1, a2, a3, a4⟩ := ih (m - 1) (sA M 23 m (gA M 23 (m - 1))) F (by omega) (by omega) (by rw [gL_sA]; exact h3) h4 h5 (by omega)
      refine ⟨M1, ?_, fun p => ?_, a3, hfr.tr a4⟩
      · refine Eq.trans ?_ a1
        show m_Row_addInOrder_78b _ (Int32.ofNat x) (Int32.ofNat j) (Int32.ofNat m) M = _
        unfold m_Row_addInOrder_78b
        rw [if_neg (by rw [i_le_of (by omega) (by omega)]; omega), i_pred (by omega) (by omega), ld_of (by omega) (by omega), Option.bind_some, st_of (by omega) (by omega), Option.bind_some, i_dec (by omega) (by omega)]
        all_goals rfl
      · rw [a2 p]
        by_cases hp : p = j
        · rw [if_pos hp, if_pos hp]
        · rw [if_neg hp, if_neg hp]
          by_cases hpm : p = m
          · rw [if_neg (by omega), if_pos (by omega), gA_sA, if_pos ⟨rfl, hpm⟩, hpm]
          · by_cases hb : j < p ∧ p ≤ m - 1
            · rw [if_pos hb, if_pos (by omega), gA_sA, if_neg (by omega)]
            · rw [if_neg hb, if_neg (by omega), gA_sA, if_neg (by omega)]
theorem c_addO44 {M : MS} {x : Nat} {A B : List Nat} (h : RW M 22 23 (A ++ B)) (hG : GD M) (hl : (A ++ B).length < 33554432) : ∃ M1, m_Row_addInOrder_44 (Int32.ofNat x) (Int32.ofNat A.length) M = some (M1, ()) ∧ RW M1 22 23 (A ++ x :: B) ∧ FC [23] [(22, 1)] M M1 ∧ gL M1 23 ≤ max (gL M 23) (2 * (A ++ B).length) := by
  have go : ∀ M0 : MS, RW M0 22 23 (A ++ B) → (A ++ B).length < gL M0 23 → ∃ M1, m_Row_addInOrder_78 (Int32.ofNat x, Int32.ofNat A.length, Int32.ofNat (A ++ B).length, M0) = some (M1, ()) ∧ RW M1 22 23 (A ++ x :: B) ∧ FC [23] [(22, 1)] M0 M1 ∧ gL M1 = gL M0 := by
    intro M0 h0 hlt
    obtain ⟨g1, g2, g3, g4, g5⟩ := h0
    have hlen : (A ++ B).length = A.length + B.length := List.length_append
    obtain ⟨M1, a1, a2, a3, a4⟩ := c_addO78 (j := A.length) (n := (A ++ B).length) (x := x) (by omega) rfl B.length (A ++ B).length M0 FU hlen (Nat.le_refl _) hlt (by omega) g1 (by unfold FU; omega)
    have hlen2 : (A ++ x :: B).length = (A ++ B).length + 1 := by rw [List.length_append, List.length_cons, hlen]; omega
    refine ⟨M1, a1, ⟨by rw [a3, hlen2], by rw [a4.ln, hlen2]; exact hlt, by rw [a4.ln]; exact g3, by rw [a4.ln]; exact g4, fun p hp => ?_⟩, FC.of a4, a4.ln⟩
    rw [hlen2] at hp
    rw [a2 p]
    by_cases hpj : p = A.length
    · rw [if_pos hpj, hpj]
      congr 1
      rw [List.getD_eq_getElem?_getD, List.getElem?_append_right (Nat.le_refl _), Nat.sub_self]
      rfl
    · rw [if_neg hpj]
      by_cases hpa : p < A.length
      · rw [if_neg (by omega), g5 p (by omega)]
        congr 1
        rw [List.getD_eq_getElem?_getD, List.getD_eq_getElem?_getD, List.getElem?_append_left hpa, List.getElem?_append_left hpa]
      · rw [if_pos (by omega), g5 (p - 1) (by omega)]
        congr 1
        rw [List.getD_eq_getElem?_getD, List.getD_eq_getElem?_getD, List.getElem?_append_right (by omega), List.getElem?_append_right (by omega), show p - A.length = (p - 1 - A.length) + 1 by omega, List.getElem?_cons_succ]
  obtain ⟨g1, g2, g3, g4, g5⟩ := id h
  unfold m_Row_addInOrder_44
  rw [g1]
  by_cases he : (A ++ B).length = gL M 23
  · rw [if_neg (by rw [he]; simp), i_x2, stG_of (by omega) (by omega) hG, Option.bind_some]
    have hfc : FC [23] [(22, 1)] M (gG M 23 ((A ++ B).length * 2)) := FC.grow (by simp) (by omega) (by omega) (by omega)
    have h2 : RW (gG M 23 ((A ++ B).length * 2)) 22 23 (A ++ B) := by
      refine ⟨g1, ?_, ?_, ?_, fun j hj => ?_⟩
      · rw [gL_gG, if_pos rfl]; omega
      · rw [gL_gG, if_pos rfl]; omega
      · rw [gL_gG, if_pos rfl]; omega
      · rw [gA_gG, if_pos rfl, if_pos (by omega)]; exact g5 j hj
    have hg : gI (gG M 23 ((A ++ B).length * 2)) 22 1 = Int32.ofNat (A ++ B).length := g1
    rw [hg]
    obtain ⟨M1, a1, a2, a3, a4⟩ := go _ h2 (by rw [gL_gG, if_pos rfl]; omega)
    refine ⟨M1, a1, a2, hfc.tr a3, ?_⟩
    rw [a4, gL_gG, if_pos rfl]
    omega
  · rw [if_pos (by rw [i_eq_of (by omega) (by omega)]; exact he)]
    obtain ⟨M1, a1, a2, a3, a4⟩ := go M h (by omega)
    exact ⟨M1, a1, a2, a3, by rw [a4]; omega⟩
/-- addInOrder: into the rising row, once -/
theorem c_addInOrder {M : MS} {x : Nat} {l : List Nat} (h : RW M 22 23 l) (hG : GD M) (hs : SrN l) (hl : l.length < 33554432) (hx : x < 1073741824) (hlx : ∀ y ∈ l, y < 1073741824) : ∃ M1, m_Row_addInOrder (Int32.ofNat x) M = some (M1, ()) ∧ RW M1 22 23 (insN x l) ∧ FC [23] [(22, 1)] M M1 ∧ gL M1 23 ≤ max (gL M 23) (2 * l.length) := by
  have key : ∀ (n : Nat) (A B : List Nat) (F : Nat), A.length = n → l = A ++ B → (∀ b ∈ B, x < b) → n < F → ∃ M1, fx (fun (k : Int32 × Int32 × MS → Option (MS × Unit)) (i : Int32 × Int32 × MS) => m_Row_addInOrder_5b k i.1 i.2.1 i.2.2) F (Int32.ofNat x, Int32.ofNat A.length, M) = some (M1, ()) ∧ RW M1 22 23 (insN x l) ∧ FC [23] [(22, 1)] M M1 ∧ gL M1 23 ≤ max (gL M 23) (2 * l.length) := by
    obtain ⟨g1, g2, g3, g4, g5⟩ := id h
    intro n
    induction n with
    | zero =>
      intro A B F hn hE hB hF
      obtain rfl := List.length_eq_zero_iff.mp hn
      rw [List.nil_append] at hE
      subst hE
      cases F with
      | zero => omega
      | succ F =>
        show ∃ M1, m_Row_addInOrder_5b _ (Int32.ofNat x) (Int32.ofNat 0) M = some (M1, ()) ∧ _
        generalize fx (fun (k : Int32 × Int32 × MS → Option (MS × Unit)) (i : Int32 × Int32 × MS) => m_Row_addInOrder_5b k i.1 i.2.1 i.2.2) F = k
        unfold m_Row_addInOrder_5b m_Row_addInOrder_27
        rw [if_pos (by decide), if_pos (by decide)]
        have h44 := c_addO44 (M := M) (x := x) (A := []) (B := l) h hG hl
        rw [← insN_split [] l (fun q hq => by cases hq) hB] at h44
        exact h44
    | succ n ih =>
      intro A B F hn hE hB hF
      rcases List.eq_nil_or_concat A with rfl | ⟨A', a, rfl⟩
      · simp at hn
      rw [List.concat_eq_append] at *
      have hlA : (A' ++ [a]).length = A'.length + 1 := by simp
      have hll : l.length = A'.length + 1 + B.length := by rw [hE, List.length_append, hlA]
      have hga : gA M 23 A'.length = Int32.ofNat a := by
        rw [g5 _ (by omega), hE]
        congr 1
        rw [List.getD_eq_getElem?_getD, List.append_assoc, List.getElem?_append_right (Nat.le_refl _), Nat.sub_self]
        rfl
      have ham : a ∈ l := by rw [hE]; simp
      have hax := hlx a ham
      rw [hlA] at hn
      cases F with
      | zero => omega
      | succ F =>
        have h27 : ¬ x < a → ∃ M1, m_Row_addInOrder_27 (Int32.ofNat x) (Int32.ofNat (A'.length + 1)) M = some (M1, ()) ∧ RW M1 22 23 (insN x l) ∧ FC [23] [(22, 1)] M M1 ∧ gL M1 23 ≤ max (gL M 23) (2 * l.length) := by
          intro hna
          unfold m_Row_addInOrder_27
          rw [if_neg (by rw [i_le, i_of (by omega), i_0]; omega), i_pred (by omega) (by omega), Nat.add_sub_cancel, ld_of (by omega) (by omega), hga, Option.bind_some]
          by_cases hxa : a = x
          · rw [if_neg (by rw [hxa]; simp)]
            rw [hxa] at ham
            exact ⟨M, rfl, by rw [insN_mem hs ham]; exact h, FC.rf, by omega⟩
          · rw [if_pos (by rw [i_eq_of (by omega) (by omega)]; exact hxa)]
            have h44 := c_addO44 (M := M) (x := x) (A := A' ++ [a]) (B := B) (by rw [← hE]; exact h) hG (by rw [← hE]; exact hl)
            rw [← insN_split (A' ++ [a]) B (fun q hq => ?_) hB, ← hE, hlA] at h44
            · exact h44
            · rcases List.mem_append.mp hq with hq | hq
              · have s1 : l.Pairwise (fun a b => a < b) := hs
                rw [hE, List.pairwise_append] at s1
                have s2 := s1.1
                rw [List.pairwise_append] at s2
                have := s2.2.2 q hq a (by simp)
                omega
              · rw [List.mem_singleton.mp hq]; omega
        show ∃ M1, m_Row_addInOrder_5b _ (Int32.ofNat x) (Int32.ofNat (A' ++ [a]).length) M = some (M1, ()) ∧ _
        rw [hlA]
        have hih := fun hxa : x < a => ih A' (a :: B) F (by omega) (by rw [hE]; simp) (fun b hb => by
          rcases List.mem_cons.mp hb with rfl | hb
          · exact hxa
          · exact hB b hb) (by omega)
        generalize fx (fun (k : Int32 × Int32 × MS → Option (MS × Unit)) (i : Int32 × Int32 × MS) => m_Row_addInOrder_5b k i.1 i.2.1 i.2.2) F = k at hih
        unfold m_Row_addInOrder_5b
        rw [if_neg (by rw [i_le, i_of (by omega), i_0]; omega), i_pred (by omega) (by omega), Nat.add_sub_cancel, ld_of (by omega) (by omega), hga, Option.bind_some]
        by_cases hxa : x < a
        · rw [if_neg (by rw [i_le_of (by omega) (by omega)]; omega), i_dec (by omega) (by omega), Nat.add_sub_cancel]
          exact hih hxa
        · rw [if_pos (by rw [i_le_of (by omega) (by omega)]; omega)]
          exact h27 hxa
  unfold m_Row_addInOrder
  rw [h.1]
  exact key l.length l [] FU rfl (by simp) (fun b hb => by cases hb) (by unfold FU; have := h.2.2.2.1; omega)
