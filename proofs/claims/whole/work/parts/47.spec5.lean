/-! STEP 2: rising rows of terms -/
theorem l_irr (a : List Nat) : ¬ a < a := List.lt_irrefl a
theorem l_tr {a b c : List Nat} (h : a < b) (h2 : b < c) : a < c := List.lt_trans h h2
theorem l_tri (a b : List Nat) (h1 : ¬ a < b) (h2 : ¬ a = b) : b < a := by
  rcases List.le_total a b with h | h
  · exact absurd (List.le_antisymm (List.not_lt.mp (fun q => absurd (List.le_antisymm h (List.not_lt.mp h1)) h2)) (List.not_lt.mp h1)) (fun _ => absurd (List.le_antisymm h (List.not_lt.mp h1)) h2)
  · exact Classical.byContradiction fun q => h2 (List.le_antisymm (List.not_lt.mp q) h)
def Srt (l : List (List Nat)) : Prop := l.Pairwise (fun a b => a < b)
theorem ins_srt {p : List Nat} {l : List (List Nat)} (h : Srt l) : Srt (ins p l) := by
  induction l with
  | nil => exact List.pairwise_singleton _ _
  | cons q r ih =>
    have h0 : (q :: r).Pairwise (fun a b => a < b) := h
    rw [List.pairwise_cons] at h0
    obtain ⟨h1, h2⟩ := h0
    unfold ins
    split
    · rename_i hpq
      exact List.pairwise_cons.mpr ⟨fun a ha => by
        rcases List.mem_cons.mp ha with rfl | ha
        · exact hpq
        · exact l_tr hpq (h1 a ha), h⟩
    · split
      · exact h
      · rename_i n1 n2
        refine List.pairwise_cons.mpr ⟨fun a ha => ?_, ih h2⟩
        rcases mem_ins.mp ha with rfl | ha
        · exact l_tri _ _ n1 n2
        · exact h1 a ha
theorem srt_Srt (ps : List (List Nat)) : Srt (srt ps) := by
  have q : ∀ (ps l : List (List Nat)), Srt l → Srt (ps.foldl (fun l p => ins p l) l) := by
    intro ps
    induction ps with
    | nil => intro l h; exact h
    | cons p ps ih => intro l h; exact ih _ (ins_srt h)
  exact q ps [] List.Pairwise.nil
theorem ins_mem {p : List Nat} {l : List (List Nat)} (h : Srt l) (hp : p ∈ l) : ins p l = l := by
  induction l with
  | nil => cases hp
  | cons q r ih =>
    have h0 : (q :: r).Pairwise (fun a b => a < b) := h
    rw [List.pairwise_cons] at h0
    obtain ⟨h1, h2⟩ := h0
    unfold ins
    rcases List.mem_cons.mp hp with rfl | hp
    · rw [if_neg (l_irr _), if_pos rfl]
    · have hqp := h1 p hp
      rw [if_neg (fun q => l_irr _ (l_tr q hqp)), if_neg (fun q => by rw [q] at hqp; exact l_irr _ hqp), ih h2 hp]
theorem ins_split {p : List Nat} (A B : List (List Nat)) (hA : ∀ q ∈ A, q < p) (hB : ∀ q ∈ B, p < q) : ins p (A ++ B) = A ++ p :: B := by
  induction A with
  | nil =>
    cases B with
    | nil => rfl
    | cons b B =>
      show ins p (b :: B) = _
      unfold ins
      rw [if_pos (hB b List.mem_cons_self)]
      rfl
  | cons a A ih =>
    have h1 := hA a List.mem_cons_self
    rw [List.cons_append]
    unfold ins
    rw [if_neg (fun q => l_irr _ (l_tr q h1)), if_neg (fun q => by rw [q] at h1; exact l_irr _ h1), ih (fun q hq => hA q (List.mem_cons_of_mem _ hq))]
    rfl
/-- a rising row is told by what is in it -/
theorem Srt_ext : ∀ (l k : List (List Nat)), Srt l → Srt k → (∀ q, q ∈ l ↔ q ∈ k) → l = k := by
  intro l
  induction l with
  | nil =>
    intro k _ _ h
    cases k with
    | nil => rfl
    | cons b k => exact absurd ((h b).mpr List.mem_cons_self) (by simp)
  | cons a l ih =>
    intro k h1 h2 h
    cases k with
    | nil => exact absurd ((h a).mp List.mem_cons_self) (by simp)
    | cons b k =>
      have h10 : (a :: l).Pairwise (fun a b => a < b) := h1
      have h20 : (b :: k).Pairwise (fun a b => a < b) := h2
      rw [List.pairwise_cons] at h10 h20
      have hab : a = b := by
        rcases List.mem_cons.mp ((h a).mp List.mem_cons_self) with e | e
        · exact e
        · rcases List.mem_cons.mp ((h b).mpr List.mem_cons_self) with e2 | e2
          · exact e2.symm
          · exact absurd (l_tr (h20.1 a e) (h10.1 b e2)) (l_irr _)
      subst hab
      congr 1
      refine ih k h10.2 h20.2 (fun q => ⟨fun hq => ?_, fun hq => ?_⟩)
      · rcases List.mem_cons.mp ((h q).mp (List.mem_cons_of_mem _ hq)) with e | e
        · subst e
          exact absurd (h10.1 _ hq) (l_irr _)
        · exact e
      · rcases List.mem_cons.mp ((h q).mpr (List.mem_cons_of_mem _ hq)) with e | e
        · subst e
          exact absurd (h20.1 _ hq) (l_irr _)
        · exact e
