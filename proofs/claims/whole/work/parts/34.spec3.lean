/-! STEP 2: the derivative's equations and its size -/
theorem wf_ind {P : List Nat → Prop} (h : ∀ (x : Nat) (ps : List (List Nat)), ar x = ps.length → (∀ p ∈ ps, wf p) → (∀ p ∈ ps, P p) → P (x :: ps.flatten)) : ∀ t, wf t → P t := by
  have q : ∀ (n : Nat) (t : List Nat), t.length ≤ n → wf t → P t := by
    intro n
    induction n with
    | zero =>
      intro t h1 h2
      exact absurd (List.length_eq_zero_iff.mp (by omega)) (wf_ne h2)
    | succ n ih =>
      intro t h1 h2
      obtain ⟨x, ps, rfl, hx, hp⟩ := wf_split h2
      refine h x ps hx hp (fun p hpp => ih p ?_ (hp p hpp))
      have := mem_flatten_len hpp
      rw [List.length_cons] at h1
      omega
  exact fun t ht => q t.length t (Nat.le_refl _) ht
theorem dv_1 {c : Nat} {t : List Nat} (h : wf t) : (dv c t).1 = t := by
  refine wf_ind (P := fun t => (dv c t).1 = t) (fun x ps hx hp ih => ?_) t h
  rw [dv_mk hx hp]
  show x :: ((ps.map (dv c)).map (fun k => k.1)).flatten = _
  rw [List.map_map]
  congr 2
  conv => rhs; rw [← List.map_id ps]
  exact List.map_congr_left (fun p hpp => ih p hpp)
theorem dv_N {c : Nat} {t : List Nat} (h : wf t) : (dv c t).2.2 = NS t := by
  refine wf_ind (P := fun t => (dv c t).2.2 = NS t) (fun x ps hx hp ih => ?_) t h
  unfold NS
  rw [dv_mk hx hp, dv_mk hx hp]
  have e1 : (ps.map (dv c)).all (fun k => k.2.2) = (ps.map (dv 0)).all (fun k => k.2.2) := by
    rw [List.all_map, List.all_map]
    rw [Bool.eq_iff_iff, List.all_eq_true, List.all_eq_true]
    exact ⟨fun h p hp => by have := h p hp; simp only [Function.comp] at this ⊢; rw [ih p hp] at this; exact this, fun h p hp => by have := h p hp; simp only [Function.comp] at this ⊢; rw [ih p hp]; exact this⟩
  have e2 : (ps.map (dv c)).any (fun k => k.2.2) = (ps.map (dv 0)).any (fun k => k.2.2) := by
    rw [List.any_map, List.any_map]
    rw [Bool.eq_iff_iff, List.any_eq_true, List.any_eq_true]
    exact ⟨fun ⟨p, hp, h⟩ => ⟨p, hp, by simp only [Function.comp] at h ⊢; rw [ih p hp] at h; exact h⟩, fun ⟨p, hp, h⟩ => ⟨p, hp, by simp only [Function.comp] at h ⊢; rw [ih p hp]; exact h⟩⟩
  show (if x % 8 = 1 ∨ x % 8 = 7 then true
    else if x % 8 = 3 ∨ x % 8 = 5 then (ps.map (dv c)).all (fun k => k.2.2)
    else if x % 8 = 4 then (ps.map (dv c)).any (fun k => k.2.2)
    else if x % 8 = 6 then !((ps.map (dv c)).any (fun k => k.2.2))
    else false) = (if x % 8 = 1 ∨ x % 8 = 7 then true
    else if x % 8 = 3 ∨ x % 8 = 5 then (ps.map (dv 0)).all (fun k => k.2.2)
    else if x % 8 = 4 then (ps.map (dv 0)).any (fun k => k.2.2)
    else if x % 8 = 6 then !((ps.map (dv 0)).any (fun k => k.2.2))
    else false)
  rw [e1, e2]
theorem DS_cat {c : Nat} {a b : List Nat} (ha : wf a) (hb : wf b) {x : Nat} (hx : x % 8 = 3) : DS c (x :: (a ++ b)) = if NS a = true then uni 4 (pt 4 (catS (DS c a) b) ++ pt 4 (DS c b)) else catS (DS c a) b := by
  have h2 : ar x = 2 := by unfold ar; rw [if_neg (by omega), if_pos hx]
  have h := dv_mk (c := c) (x := x) (ps := [a, b]) h2 (fun p hp => by
    simp only [List.mem_cons, List.not_mem_nil, or_false] at hp
    rcases hp with rfl | rfl
    · exact ha
    · exact hb)
  have e : x :: (a ++ b) = x :: [a, b].flatten := by simp
  unfold DS
  rw [e, h]
  show (if x % 8 = 2 then _ else if x % 8 = 3 then (if (dv c a).2.2 = true then uni 4 (pt 4 (catS (dv c a).2.1 (dv c b).1) ++ pt 4 (dv c b).2.1) else catS (dv c a).2.1 (dv c b).1) else _) = _
  rw [if_neg (by omega), if_pos hx, dv_N ha, dv_1 hb]
theorem DS_several {c x : Nat} {ps : List (List Nat)} (hx : ar x = ps.length) (hp : ∀ p ∈ ps, wf p) (h : x % 8 = 4 ∨ x % 8 = 5) : DS c (x :: ps.flatten) = uni (x % 8) ((ps.map (fun p => pt (x % 8) (DS c p))).flatten) := by
  unfold DS
  rw [dv_mk hx hp]
  show (if x % 8 = 2 then _ else if x % 8 = 3 then _ else if x % 8 = 4 ∨ x % 8 = 5 then uni (x % 8) (((ps.map (dv c)).map (fun k => pt (x % 8) k.2.1)).flatten) else _) = _
  rw [if_neg (by omega), if_neg (by omega), if_pos h, List.map_map]
  rfl
theorem DS_not {c x : Nat} {a : List Nat} (ha : wf a) (hx : x % 8 = 6) : DS c (x :: a) = notS (DS c a) := by
  have h1 : ar x = 1 := by unfold ar; rw [if_neg (by omega), if_neg (by omega), if_pos (by omega)]
  have h := dv_mk (c := c) (x := x) (ps := [a]) h1 (fun p hp => by rw [List.mem_singleton.mp hp]; exact ha)
  have e : x :: a = x :: [a].flatten := by simp
  unfold DS
  rw [e, h]
  show (if x % 8 = 2 then _ else if x % 8 = 3 then _ else if x % 8 = 4 ∨ x % 8 = 5 then _ else if x % 8 = 6 then notS (dv c a).2.1 else _) = _
  rw [if_neg (by omega), if_neg (by omega), if_neg (by omega), if_pos hx]
theorem DS_star {c x : Nat} {a : List Nat} (ha : wf a) (hx : x % 8 = 7) : DS c (x :: a) = catS (DS c a) (x :: a) := by
  have h1 : ar x = 1 := by unfold ar; rw [if_neg (by omega), if_neg (by omega), if_pos (by omega)]
  have h := dv_mk (c := c) (x := x) (ps := [a]) h1 (fun p hp => by rw [List.mem_singleton.mp hp]; exact ha)
  have e : x :: a = x :: [a].flatten := by simp
  unfold DS
  rw [e, h]
  show (if x % 8 = 2 then _ else if x % 8 = 3 then _ else if x % 8 = 4 ∨ x % 8 = 5 then _ else if x % 8 = 6 then _ else if x % 8 = 7 then catS (dv c a).2.1 (x :: (dv c a).1) else _) = _
  rw [if_neg (by omega), if_neg (by omega), if_neg (by omega), if_neg (by omega), if_pos hx, dv_1 ha]
  simp
theorem DS_leaf {c x : Nat} (hx : x % 8 < 3) : DS c [x] = if x % 8 = 2 ∧ x / 8 / 2 ^ c % 2 = 1 then [1] else [0] := by
  have h0 : ar x = 0 := by unfold ar; rw [if_pos hx]
  have h := dv_mk (c := c) (x := x) (ps := []) h0 (fun p hp => by cases hp)
  unfold DS
  have e : [x] = x :: ([] : List (List Nat)).flatten := rfl
  rw [e, h]
  show (if x % 8 = 2 then (if x / 8 / 2 ^ c % 2 = 1 then [1] else [0]) else if x % 8 = 3 then _ else if x % 8 = 4 ∨ x % 8 = 5 then _ else if x % 8 = 6 then _ else if x % 8 = 7 then _ else [0]) = _
  by_cases h2 : x % 8 = 2
  · rw [if_pos h2]
    by_cases h3 : x / 8 / 2 ^ c % 2 = 1
    · rw [if_pos h3, if_pos ⟨h2, h3⟩]
    · rw [if_neg h3, if_neg (fun q => h3 q.2)]
  · rw [if_neg h2, if_neg (by omega), if_neg (by omega), if_neg (by omega), if_neg (by omega), if_neg (fun q => h2 q.1)]
/-- an item's sort -/
theorem ar_0 {x : Nat} (h : x % 8 < 3) : ar x = 0 := by unfold ar; rw [if_pos h]
theorem ar_2 {x : Nat} (h : x % 8 = 3) : ar x = 2 := by unfold ar; rw [if_neg (by omega), if_pos h]
theorem ar_1 {x : Nat} (h : 5 < x % 8) : ar x = 1 := by unfold ar; rw [if_neg (by omega), if_neg (by omega), if_pos h]
theorem ar_n {x : Nat} (h : x % 8 = 4 ∨ x % 8 = 5) : ar x = x / 8 := by unfold ar; rw [if_neg (by omega), if_neg (by omega), if_neg (by omega)]
/-- by cases over the sort -/
theorem wf_cases {P : List Nat → Prop} (h0 : ∀ x : Nat, x % 8 < 3 → P [x]) (h3 : ∀ (x : Nat) (a b : List Nat), x % 8 = 3 → wf a → wf b → P a → P b → P (x :: (a ++ b)))
    (h4 : ∀ (x : Nat) (ps : List (List Nat)), (x % 8 = 4 ∨ x % 8 = 5) → ar x = ps.length → (∀ p ∈ ps, wf p) → (∀ p ∈ ps, P p) → P (x :: ps.flatten)) (h6 : ∀ (x : Nat) (a : List Nat), x % 8 = 6 → wf a → P a → P (x :: a)) (h7 : ∀ (x : Nat) (a : List Nat), x % 8 = 7 → wf a → P a → P (x :: a)) : ∀ t, wf t → P t := by
  refine wf_ind (fun x ps hx hp ih => ?_)
  have hm : x % 8 < 8 := Nat.mod_lt _ (by omega)
  by_cases c0 : x % 8 < 3
  · rw [ar_0 c0] at hx
    rw [List.length_eq_zero_iff.mp hx.symm]
    exact h0 x c0
  · by_cases c3 : x % 8 = 3
    · rw [ar_2 c3] at hx
      match ps, hx with
      | [a, b], _ =>
        have := h3 x a b c3 (hp a (by simp)) (hp b (by simp)) (ih a (by simp)) (ih b (by simp))
        simpa using this
    · by_cases c4 : x % 8 = 4 ∨ x % 8 = 5
      · exact h4 x ps c4 hx hp ih
      · have c5 : 5 < x % 8 := by omega
        rw [ar_1 c5] at hx
        match ps, hx with
        | [a], _ =>
          have e : x :: [a].flatten = x :: a := by simp
          rw [e]
          by_cases c6 : x % 8 = 6
          · exact h6 x a c6 (hp a (by simp)) (ih a (by simp))
          · exact h7 x a (by omega) (hp a (by simp)) (ih a (by simp))
theorem wf_DS {c : Nat} : ∀ t, wf t → wf (DS c t) := by
  refine wf_cases (P := fun t => wf (DS c t)) (fun x hx => ?_) (fun x a b hx ha hb pa pb => ?_) (fun x ps hx hl hp ih => ?_) (fun x a hx ha pa => ?_) (fun x a hx ha pa => ?_)
  · rw [DS_leaf hx]
    split
    · exact wf_1
    · exact wf_0
  · rw [DS_cat ha hb hx]
    split
    · refine wf_uni (Or.inl rfl) (fun p hp => ?_)
      rcases List.mem_append.mp hp with hp | hp
      · exact pt_wf (wf_catS pa hb) p hp
      · exact pt_wf pb p hp
    · exact wf_catS pa hb
  · rw [DS_several hl hp hx]
    refine wf_uni hx (fun p hpp => ?_)
    obtain ⟨l, hl1, hl2⟩ := List.mem_flatten.mp hpp
    obtain ⟨q, hq, rfl⟩ := List.mem_map.mp hl1
    exact pt_wf (ih q hq) p hl2
  · rw [DS_not ha hx]
    exact wf_notS pa
  · rw [DS_star ha hx]
    exact wf_catS pa (wf_un (ar_1 (by omega)) ha)
