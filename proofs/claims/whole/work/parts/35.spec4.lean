/-! STEP 2: sizes -/
theorem pt_len {s : Nat} {t : List Nat} (h : wf t) : (pt s t).flatten.length ≤ t.length := by
  unfold pt
  split
  · have h1 := (pts_spec h).1
    have h2 := congrArg List.length h1
    rw [List.length_cons] at h2
    omega
  · rw [List.flatten_cons, List.flatten_nil, List.append_nil]
    exact Nat.le_refl _
theorem ins_len (p : List Nat) (l : List (List Nat)) : (ins p l).flatten.length ≤ p.length + l.flatten.length := by
  induction l with
  | nil => simp [ins]
  | cons q r ih =>
    unfold ins
    split
    · rw [List.flatten_cons, List.length_append]; omega
    · split
      · omega
      · rw [List.flatten_cons, List.length_append, List.flatten_cons, List.length_append]; omega
theorem foldl_ins_len (ps l : List (List Nat)) : (ps.foldl (fun l p => ins p l) l).flatten.length ≤ ps.flatten.length + l.flatten.length := by
  induction ps generalizing l with
  | nil => simp
  | cons p ps ih =>
    rw [List.foldl_cons, List.flatten_cons, List.length_append]
    have h1 := ih (ins p l)
    have h2 := ins_len p l
    omega
theorem srt_len (ps : List (List Nat)) : (srt ps).flatten.length ≤ ps.flatten.length := by
  have := foldl_ins_len ps []
  simpa [srt] using this
theorem filt_len {ps : List (List Nat)} (h : ∀ p ∈ ps, wf p) (f g : List Nat → Bool) (hfg : ∀ p, f p = true → g p = true → False) : (ps.filter f).flatten.length + (if ps.filter g = [] then 0 else 1) ≤ ps.flatten.length := by
  induction ps with
  | nil => simp
  | cons p ps ih =>
    have h1 := ih (fun q hq => h q (List.mem_cons_of_mem _ hq))
    have h2 : 1 ≤ p.length := List.length_pos_iff.mpr (wf_ne (h p List.mem_cons_self))
    rw [List.flatten_cons, List.length_append]
    by_cases hf : f p = true
    · have hg : ¬ g p = true := fun q => hfg p hf q
      rw [List.filter_cons_of_pos hf, List.filter_cons_of_neg hg, List.flatten_cons, List.length_append]
      omega
    · rw [List.filter_cons_of_neg hf]
      by_cases hg : g p = true
      · rw [List.filter_cons_of_pos hg, if_neg (by simp)]
        split at h1 <;> omega
      · rw [List.filter_cons_of_neg hg]
        omega
theorem mkS_len {s : Nat} {l : List (List Nat)} : (mkS s l).length ≤ l.flatten.length + 1 ∨ (l = [] ∧ mkS s l = neS s) := by
  match l with
  | [] => exact Or.inr ⟨rfl, rfl⟩
  | [p] =>
    left
    show p.length ≤ _
    simp
  | p :: q :: r =>
    left
    show ((s + 8 * (p :: q :: r).length) :: (p :: q :: r).flatten).length ≤ _
    rw [List.length_cons]
    exact Nat.le_refl _
theorem flat_pos {ps : List (List Nat)} (h : ∀ p ∈ ps, wf p) (hne : ps ≠ []) : 1 ≤ ps.flatten.length := by
  match ps, h, hne with
  | p :: r, h, _ =>
    have h2 : 1 ≤ p.length := List.length_pos_iff.mpr (wf_ne (h p List.mem_cons_self))
    rw [List.flatten_cons, List.length_append]
    omega
theorem neS_len (s : Nat) : (neS s).length ≤ 2 := by
  unfold neS
  split <;> simp
theorem uni_len {s : Nat} {ps : List (List Nat)} (h : ∀ p ∈ ps, wf p) (hne : ps ≠ []) : (uni s ps).length ≤ ps.flatten.length + 1 := by
  have hpos := flat_pos h hne
  unfold uni
  split
  · rename_i hs
    have := mem_flatten_len hs
    omega
  · split
    · simp only [List.length_cons, List.length_nil]
      omega
    · have h1 := filt_len h (fun p => decide (¬ hd p % 8 = 2 ∧ p ≠ neS s)) (fun p => decide (hd p % 8 = 2)) (fun p q1 q2 => by
        simp only [decide_eq_true_eq] at q1 q2
        exact q1.1 q2)
      rcases mkS_len (s := s) (l := srt (ps.filter (fun p => decide (¬ hd p % 8 = 2 ∧ p ≠ neS s)) ++ (if ps.filter (fun p => decide (hd p % 8 = 2)) = [] then [] else [[2 + 8 * ltS s (ps.filter (fun p => decide (hd p % 8 = 2)))]]))) with h2 | ⟨h2, h3⟩
      · refine Nat.le_trans h2 ?_
        have h4 := srt_len (ps.filter (fun p => decide (¬ hd p % 8 = 2 ∧ p ≠ neS s)) ++ (if ps.filter (fun p => decide (hd p % 8 = 2)) = [] then [] else [[2 + 8 * ltS s (ps.filter (fun p => decide (hd p % 8 = 2)))]]))
        rw [List.flatten_append, List.length_append] at h4
        have h5 : (if ps.filter (fun p => decide (hd p % 8 = 2)) = [] then [] else [[2 + 8 * ltS s (ps.filter (fun p => decide (hd p % 8 = 2)))]]).flatten.length = if ps.filter (fun p => decide (hd p % 8 = 2)) = [] then 0 else 1 := by
          split <;> simp
        rw [h5] at h4
        omega
      · rw [h3]
        have := neS_len s
        omega
theorem catF_len (b : List Nat) : ∀ (n : Nat) (a : List Nat), wf a → (catF n a b).length = a.length + b.length + 1 := by
  intro n
  induction n with
  | zero => intro a _; simp [catF]
  | succ n ih =>
    intro a ha
    unfold catF
    split
    · rename_i h
      obtain ⟨p, q, h1, h2, h3, h4⟩ := pts_two ha h
      rw [h1]
      show (3 :: (p ++ catF n q b)).length = _
      rw [List.length_cons, List.length_append, ih q h3, h4, List.length_cons, List.length_append]
      omega
    · simp
theorem catS_len {a b : List Nat} (ha : wf a) (hb : wf b) : (catS a b).length ≤ a.length + b.length + 1 := by
  unfold catS
  split
  · simp
  · split
    · omega
    · split
      · omega
      · rw [catF_len b _ a ha]
        exact Nat.le_refl _
theorem notS_len (a : List Nat) : (notS a).length ≤ a.length + 1 := by
  unfold notS
  split
  · rw [List.length_tail]; omega
  · simp
theorem sq_sum (ps : List (List Nat)) : (ps.map (fun p => p.length * (p.length + 3))).sum ≤ ps.flatten.length * (ps.flatten.length + 3) := by
  induction ps with
  | nil => simp
  | cons p ps ih =>
    rw [List.map_cons, List.sum_cons, List.flatten_cons, List.length_append]
    refine Nat.le_trans (Nat.add_le_add_left ih _) ?_
    generalize p.length = a
    generalize ps.flatten.length = b
    have : (a + b) * (a + b + 3) = a * (a + 3) + b * (b + 3) + 2 * (a * b) := by
      simp only [Nat.mul_add, Nat.add_mul]
      have := Nat.mul_comm a b
      omega
    omega
theorem sum_len {f : List Nat → List (List Nat)} {B : List Nat → Nat} (ps : List (List Nat)) (h : ∀ p ∈ ps, 2 * (f p).flatten.length ≤ B p) : 2 * ((ps.map f).flatten).flatten.length ≤ (ps.map B).sum := by
  induction ps with
  | nil => simp
  | cons p ps ih =>
    rw [List.map_cons, List.flatten_cons, List.flatten_append, List.length_append, List.map_cons, List.sum_cons]
    have h1 := h p List.mem_cons_self
    have h2 := ih (fun q hq => h q (List.mem_cons_of_mem _ hq))
    omega
theorem DS_len {c : Nat} : ∀ t, wf t → 2 * (DS c t).length ≤ t.length * (t.length + 3) := by
  refine wf_cases (P := fun t => 2 * (DS c t).length ≤ t.length * (t.length + 3)) (fun x hx => ?_) (fun x a b hx ha hb pa pb => ?_) (fun x ps hx hl hp ih => ?_) (fun x a hx ha pa => ?_) (fun x a hx ha pa => ?_)
  · rw [DS_leaf hx]
    split <;> simp
  · rw [DS_cat ha hb hx, List.length_cons, List.length_append]
    have h1 := catS_len (wf_DS (c := c) a ha) hb
    have e : (a.length + b.length + 1) * (a.length + b.length + 1 + 3) = a.length * (a.length + 3) + b.length * (b.length + 3) + 2 * (a.length * b.length) + 2 * a.length + 2 * b.length + 4 := by
      generalize a.length = m
      generalize b.length = n
      simp only [Nat.mul_add, Nat.add_mul]
      have := Nat.mul_comm m n
      omega
    split
    · have hw : ∀ p ∈ pt 4 (catS (DS c a) b) ++ pt 4 (DS c b), wf p := fun p hp => by
        rcases List.mem_append.mp hp with hp | hp
        · exact pt_wf (wf_catS (wf_DS a ha) hb) p hp
        · exact pt_wf (wf_DS b hb) p hp
      by_cases hne : pt 4 (catS (DS c a) b) ++ pt 4 (DS c b) = []
      · rw [hne]
        have : (uni 4 []).length = 1 := by decide
        rw [this]
        omega
      · have h2 := uni_len (s := 4) hw hne
        rw [List.flatten_append, List.length_append] at h2
        have h3 := pt_len (s := 4) (wf_catS (wf_DS (c := c) a ha) hb)
        have h4 := pt_len (s := 4) (wf_DS (c := c) b hb)
        omega
    · omega
  · rw [DS_several hl hp hx, List.length_cons]
    have hw : ∀ p ∈ (ps.map (fun p => pt (x % 8) (DS c p))).flatten, wf p := fun p hpp => by
      obtain ⟨l, hl1, hl2⟩ := List.mem_flatten.mp hpp
      obtain ⟨q, hq, rfl⟩ := List.mem_map.mp hl1
      exact pt_wf (wf_DS q (hp q hq)) p hl2
    have h5 := sum_len (f := fun p => pt (x % 8) (DS c p)) (B := fun p => p.length * (p.length + 3)) ps (fun p hpp => by
      have := pt_len (s := x % 8) (wf_DS (c := c) p (hp p hpp))
      have := ih p hpp
      omega)
    have h6 := sq_sum ps
    have e : (ps.flatten.length + 1) * (ps.flatten.length + 1 + 3) = ps.flatten.length * (ps.flatten.length + 3) + 2 * ps.flatten.length + 4 := by
      generalize ps.flatten.length = n
      simp only [Nat.mul_add, Nat.add_mul]
      omega
    by_cases hne : (ps.map (fun p => pt (x % 8) (DS c p))).flatten = []
    · rw [hne]
      have : (uni (x % 8) []).length ≤ 2 := by
        rcases hx with h | h <;> rw [h] <;> decide
      omega
    · have h2 := uni_len (s := x % 8) hw hne
      omega
  · rw [DS_not ha hx, List.length_cons]
    have h1 := notS_len (DS c a)
    have e : (a.length + 1) * (a.length + 1 + 3) = a.length * (a.length + 3) + 2 * a.length + 4 := by
      generalize a.length = n
      simp only [Nat.mul_add, Nat.add_mul]
      omega
    omega
  · rw [DS_star ha hx]
    have h1 := catS_len (wf_DS (c := c) a ha) (wf_un (ar_1 (x := x) (by omega)) ha)
    rw [List.length_cons] at h1 ⊢
    have e : (a.length + 1) * (a.length + 1 + 3) = a.length * (a.length + 3) + 2 * a.length + 4 := by
      generalize a.length = n
      simp only [Nat.mul_add, Nat.add_mul]
      omega
    omega
