/-! STEP 2, the class: gathering what an OR or an AND has -/
def swI (s : Nat) : Nat := if s = 4 then 17 else 0
def neI (s : Nat) : Nat := if s = 4 then 0 else 17
def clF (T : List Nat) : List Nat := T.filter (fun i => decide (1 ≤ i ∧ i < 16))
def otF (s : Nat) (T : List Nat) : List Nat := T.filter (fun i => decide (¬ (1 ≤ i ∧ i < 16) ∧ i ≠ swI s ∧ i ≠ neI s))
def srN (l : List Nat) : List Nat := l.foldl (fun l x => insN x l) []
theorem srN_snoc (l : List Nat) (x : Nat) : srN (l ++ [x]) = insN x (srN l) := by
  unfold srN
  rw [List.foldl_append]
  rfl
theorem srN_srt (l : List Nat) : SrN (srN l) := by
  have q : ∀ (l k : List Nat), SrN k → SrN (l.foldl (fun l x => insN x l) k) := by
    intro l
    induction l with
    | nil => intro k hk; exact hk
    | cons x l ih => intro k hk; exact ih _ (insN_srt hk)
  exact q l [] List.Pairwise.nil
theorem mem_srN {x : Nat} {l : List Nat} : x ∈ srN l ↔ x ∈ l := by
  have q : ∀ (l k : List Nat), x ∈ l.foldl (fun l x => insN x l) k ↔ x ∈ l ∨ x ∈ k := by
    intro l
    induction l with
    | nil => intro k; simp
    | cons y l ih =>
      intro k
      rw [List.foldl_cons, ih, mem_insN, List.mem_cons]
      constructor
      · intro h
        rcases h with h | h | h
        · exact Or.inl (Or.inr h)
        · exact Or.inl (Or.inl h)
        · exact Or.inr h
      · intro h
        rcases h with (h | h) | h
        · exact Or.inr (Or.inl h)
        · exact Or.inl h
        · exact Or.inr (Or.inr h)
  have := q l []
  simpa [srN] using this
theorem SrN.nd {l : List Nat} (h : SrN l) : l.Nodup := List.Pairwise.imp (fun {a b} hab e => by omega) h
theorem srN_len (l : List Nat) : (srN l).length ≤ l.length := nodup_leG _ _ (srN_srt l).nd (fun x hx => mem_srN.mp hx)
def clV (s : Nat) (T : List Nat) : Nat := (clF T).foldl (opL s) (if s = 4 then 0 else 15)
/-- what was taken so far -/
def GS (M : MS) (s : Nat) (T : List Nat) : Prop := gI M 21 1 = Int32.ofNat s ∧ gI M 21 3 = b01 (decide (swI s ∈ T)) ∧ gI M 21 2 = (if clF T = [] then -1 else Int32.ofNat (clV s T)) ∧ RW M 22 23 (srN (otF s T))
theorem opL_15 {s a b : Nat} (ha : a ≤ 15) (hb : b ≤ 15) : opL s a b ≤ 15 := by
  unfold opL
  split
  · exact Nat.le_of_lt_succ (Nat.or_lt_two_pow (n := 4) (by omega) (by omega))
  · exact Nat.le_trans Nat.and_le_left ha
theorem clV_snoc {s i : Nat} {T : List Nat} (hi : 1 ≤ i ∧ i < 16) : clV s (T ++ [i]) = opL s (clV s T) i := by
  unfold clV clF
  rw [List.filter_append, List.filter_cons_of_pos (by simpa using hi), List.filter_nil, List.foldl_append]
  rfl
theorem clV_le (s : Nat) (T : List Nat) : clV s T ≤ 15 := by
  unfold clV clF
  have q : ∀ (l : List Nat) (a : Nat), a ≤ 15 → (∀ x ∈ l, x < 16) → l.foldl (opL s) a ≤ 15 := by
    intro l
    induction l with
    | nil => intro a ha _; exact ha
    | cons x l ih =>
      intro a ha hl
      exact ih _ (opL_15 ha (by have := hl x List.mem_cons_self; omega)) (fun y hy => hl y (List.mem_cons_of_mem _ hy))
  refine q _ _ (by split <;> omega) (fun x hx => ?_)
  have := (List.mem_filter.mp hx).2
  simp only [decide_eq_true_eq] at this
  omega
theorem and_15 : ∀ i : Fin 16, 15 &&& i.val = i.val := by decide
theorem opL_first {s i : Nat} (hi : i < 16) : opL s (if s = 4 then 0 else 15) i = i := by
  unfold opL
  by_cases h : s = 4
  · rw [if_pos h, if_pos h, Nat.zero_or]
  · rw [if_neg h, if_neg h]
    exact and_15 ⟨i, hi⟩
theorem c_begin {M : MS} {s : Nat} {l : List Nat} (hW : RW M 22 23 l) : ∃ M1, m_Gathering_begin (Int32.ofNat s) M = some (M1, ()) ∧ GS M1 s [] ∧ FC [23] [(22, 1), (21, 1), (21, 2), (21, 3)] M M1 := by
  obtain ⟨c1, c2, c3⟩ := c_clear isR22 hW
  refine ⟨sI (sI (sI (sI M 22 1 0) 21 1 (Int32.ofNat s)) 21 2 (-1)) 21 3 0, ?_, ⟨?_, ?_, ?_, ?_⟩, ?_⟩
  · unfold m_Gathering_begin
    rw [c1, cal_sI]
    rfl
  · rw [gI_sI, if_neg (by omega), gI_sI, if_neg (by omega), gI_sI, if_pos ⟨rfl, rfl⟩]
  · rw [gI_sI, if_pos ⟨rfl, rfl⟩]
    rfl
  · rw [gI_sI, if_neg (by omega), gI_sI, if_pos ⟨rfl, rfl⟩]
    rfl
  · exact c2.fc (R := []) (F := [(21, 1), (21, 2), (21, 3)]) (FC.of (((Fr.stI (by decide)).tr (Fr.stI (by decide))).tr (Fr.stI (by decide)))) (by decide) (by decide)
  · exact FC.of ((((Fr.stI (by decide)).tr (Fr.stI (by decide))).tr (Fr.stI (by decide))).tr (Fr.stI (by decide)))
theorem c_swallower {M : MS} {s : Nat} {T : List Nat} (hs : s = 4 ∨ s = 5) (h : GS M s T) : m_Gathering_swallower M = some (M, Int32.ofNat (swI s)) ∧ m_Gathering_neutral M = some (M, Int32.ofNat (neI s)) := by
  unfold m_Gathering_swallower m_Gathering_neutral
  rw [h.1]
  rcases hs with rfl | rfl
  · rw [if_neg (by decide), if_neg (by decide)]
    exact ⟨rfl, rfl⟩
  · rw [if_pos (by decide), if_pos (by decide)]
    exact ⟨rfl, rfl⟩
theorem c_take {M : MS} {s i : Nat} {T : List Nat} (hs : s = 4 ∨ s = 5) (h : GS M s T) (hG : GD M) (hi : i < 131072) (hT : ∀ k ∈ T, k < 131072) (hl : T.length < 1000000) : ∃ M1, m_Gathering_take (Int32.ofNat i) M = some (M1, ()) ∧ GS M1 s (T ++ [i]) ∧ FC [23] [(22, 1), (21, 1), (21, 2), (21, 3)] M M1 ∧ gL M1 23 ≤ max (gL M 23) (2 * T.length) := by
  obtain ⟨sw1, ne1⟩ := c_swallower hs h
  obtain ⟨g1, g2, g3, g4⟩ := id h
  have hswI : swI s < 131072 := by unfold swI; split <;> omega
  have hneI : neI s < 131072 := by unfold neI; split <;> omega
  have hswne : swI s ≠ neI s := by unfold swI neI; split <;> omega
  have hswc : ¬ (1 ≤ swI s ∧ swI s < 16) := by unfold swI; split <;> omega
  have hnec : ¬ (1 ≤ neI s ∧ neI s < 16) := by unfold neI; split <;> omega
  have hmem : swI s ∈ T ++ [i] ↔ swI s ∈ T ∨ swI s = i := by simp
  unfold m_Gathering_take
  rw [sw1, cal_same]
  by_cases c1 : i = swI s
  · rw [if_neg (by show ¬ ¬ Int32.ofNat i = Int32.ofNat (swI s); rw [c1]; simp), Option.bind_some]
    refine ⟨sI M 21 3 1, rfl, ⟨?_, ?_, ?_, ?_⟩, FC.of (Fr.stI (by decide)), by show gL M 23 ≤ _; omega⟩
    · rw [gI_sI, if_neg (by omega)]; exact g1
    · rw [gI_sI, if_pos ⟨rfl, rfl⟩, decide_eq_true (hmem.mpr (Or.inr c1.symm))]; rfl
    · have e : clF (T ++ [i]) = clF T := by
        unfold clF
        rw [List.filter_append, List.filter_cons_of_neg (by simp only [decide_eq_true_eq]; rw [c1]; exact hswc), List.filter_nil, List.append_nil]
      have e2 : clV s (T ++ [i]) = clV s T := by unfold clV; rw [e]
      rw [gI_sI, if_neg (by omega), e, e2]
      exact g3
    · have e : otF s (T ++ [i]) = otF s T := by
        unfold otF
        rw [List.filter_append, List.filter_cons_of_neg (by simp only [decide_eq_true_eq]; exact fun q => q.2.1 c1), List.filter_nil, List.append_nil]
      rw [e]
      exact g4.fc (R := []) (F := [(21, 3)]) (FC.of (Fr.stI (by decide))) (by decide) (by decide)
  · have hsw2 : decide (swI s ∈ T ++ [i]) = decide (swI s ∈ T) := by
      congr 1
      exact propext (hmem.trans ⟨fun q => q.resolve_right (fun e => c1 e.symm), Or.inl⟩)
    rw [if_pos (by show ¬ Int32.ofNat i = Int32.ofNat (swI s); rw [i_eq_of (by omega) (by omega)]; exact c1)]
    have other : ¬ (1 ≤ i ∧ i < 16) → ∃ M1, m_Gathering_take_34 (Int32.ofNat i) M = some (M1, ()) ∧ GS M1 s (T ++ [i]) ∧ FC [23] [(22, 1), (21, 1), (21, 2), (21, 3)] M M1 ∧ gL M1 23 ≤ max (gL M 23) (2 * T.length) := by
      intro hnc
      have e : clF (T ++ [i]) = clF T := by
        unfold clF
        rw [List.filter_append, List.filter_cons_of_neg (by simp only [decide_eq_true_eq]; exact hnc), List.filter_nil, List.append_nil]
      have e2 : clV s (T ++ [i]) = clV s T := by unfold clV; rw [e]
      unfold m_Gathering_take_34
      rw [ne1, cal_same]
      by_cases c2 : i = neI s
      · rw [if_pos (by rw [c2])]
        refine ⟨M, rfl, ⟨g1, by rw [hsw2]; exact g2, by rw [e, e2]; exact g3, ?_⟩, FC.rf, by omega⟩
        have e3 : otF s (T ++ [i]) = otF s T := by
          unfold otF
          rw [List.filter_append, List.filter_cons_of_neg (by simp only [decide_eq_true_eq]; exact fun q => q.2.2 c2), List.filter_nil, List.append_nil]
        rw [e3]
        exact g4
      · rw [if_neg (by show ¬ Int32.ofNat i = Int32.ofNat (neI s); rw [i_eq_of (by omega) (by omega)]; exact c2)]
        have e3 : otF s (T ++ [i]) = otF s T ++ [i] := by
          unfold otF
          rw [List.filter_append, List.filter_cons_of_pos (by simp only [decide_eq_true_eq]; exact ⟨hnc, c1, c2⟩), List.filter_nil]
        have hll : (srN (otF s T)).length ≤ T.length := Nat.le_trans (srN_len _) (List.length_filter_le _ _)
        obtain ⟨M1, a1, a2, a3, a4⟩ := c_addInOrder (M := M) (x := i) g4 hG (srN_srt _) (by omega) (by omega) (fun y hy => by
          have := hT y (List.mem_filter.mp (mem_srN.mp hy)).1
          omega)
        rw [cal_some a1 a3.le.1 a3.le.2]
        refine ⟨M1, rfl, ⟨by rw [a3.gi (by decide)]; exact g1, by rw [a3.gi (by decide), hsw2]; exact g2, by rw [a3.gi (by decide), e, e2]; exact g3, by rw [e3, srN_snoc]; exact a2⟩, a3.mono (by decide) (by decide), by omega⟩
    by_cases c16 : 16 ≤ i
    · rw [if_pos (by rw [show (16 : Int32) = Int32.ofNat 16 from rfl, i_le_of (by omega) (by omega)]; exact c16)]
      exact other (by omega)
    · rw [if_neg (by rw [show (16 : Int32) = Int32.ofNat 16 from rfl, i_le_of (by omega) (by omega)]; exact c16)]
      by_cases c0 : i = 0
      · rw [if_pos (by rw [c0]; decide)]
        exact other (by omega)
      · rw [if_neg (by rw [i_eq, i_of (by omega), i_0]; omega)]
        have hc : 1 ≤ i ∧ i < 16 := by omega
        have hne : clF (T ++ [i]) ≠ [] := by
          unfold clF
          rw [List.filter_append, List.filter_cons_of_pos (by simpa using hc)]
          simp
        have e3 : otF s (T ++ [i]) = otF s T := by
          unfold otF
          rw [List.filter_append, List.filter_cons_of_neg (by simp only [decide_eq_true_eq]; exact fun q => q.1 hc), List.filter_nil, List.append_nil]
        have fin : ∀ v : Int32, v = Int32.ofNat (clV s (T ++ [i])) → GS (sI M 21 2 v) s (T ++ [i]) := by
          intro v hv
          refine ⟨by rw [gI_sI, if_neg (by omega)]; exact g1, by rw [gI_sI, if_neg (by omega), hsw2]; exact g2, by rw [gI_sI, if_pos ⟨rfl, rfl⟩, if_neg hne]; exact hv, ?_⟩
          rw [e3]
          exact g4.fc (R := []) (F := [(21, 2)]) (FC.of (Fr.stI (by decide))) (by decide) (by decide)
        have hcl := clV_le s T
        unfold m_Gathering_takeClass m_Gathering_takeClass_40
        rw [g3]
        by_cases hcf : clF T = []
        · rw [if_pos hcf, if_neg (by show ¬ ¬ (-1 : Int32) = -1; decide), Option.bind_some, cal_sI]
          refine ⟨_, rfl, fin _ ?_, FC.of (Fr.stI (by decide)), by show gL M 23 ≤ _; omega⟩
          rw [clV_snoc hc]
          have : clV s T = if s = 4 then 0 else 15 := by unfold clV; rw [hcf]; rfl
          rw [this, opL_first hc.2]
        · rw [if_neg hcf, if_pos (i_nm1 (by omega)), g1, Option.bind_some, Option.bind_some]
          have hop : (if ¬ Int32.ofNat s = (4 : Int32) then some (sI M 21 2 (Int32.ofNat (clV s T) &&& Int32.ofNat i), ()) else some (sI M 21 2 (Int32.ofNat (clV s T) ||| Int32.ofNat i), ())) = some (sI M 21 2 (Int32.ofNat (clV s (T ++ [i]))), ()) := by
            rw [clV_snoc hc]
            rcases hs with rfl | rfl
            · rw [if_neg (by decide), i_or_of]; rfl
            · rw [if_pos (by decide), i_and_of]; rfl
          have hop' : (if ¬ Int32.ofNat s = (4 : Int32) then some (sI (M, Int32.ofNat (swI s)).1 21 2 (Int32.ofNat (clV s T) &&& Int32.ofNat i), ()) else some (sI (M, Int32.ofNat (swI s)).1 21 2 (Int32.ofNat (clV s T) ||| Int32.ofNat i), ())) = some (sI M 21 2 (Int32.ofNat (clV s (T ++ [i]))), ()) := hop
          rw [hop', cal_sI]
          exact ⟨_, rfl, fin _ rfl, FC.of (Fr.stI (by decide)), by show gL M 23 ≤ _; omega⟩
