/-! STEP 2: proper items; how many parts a derivative's items have -/
def prI (x : Nat) : Prop := (x % 8 = 2 ∧ 1 ≤ x / 8 ∧ x / 8 ≤ 15) ∨ ((x % 8 = 4 ∨ x % 8 = 5) ∧ 2 ≤ x / 8) ∨ (x < 8 ∧ x ≠ 2 ∧ x ≠ 4 ∧ x ≠ 5)
def pr (t : List Nat) : Prop := ∀ x ∈ t, prI x
theorem pr_app {a b : List Nat} (ha : pr a) (hb : pr b) : pr (a ++ b) := fun x hx => by
  rcases List.mem_append.mp hx with h | h
  · exact ha x h
  · exact hb x h
theorem pr_cons {x : Nat} {a : List Nat} (hx : prI x) (ha : pr a) : pr (x :: a) := fun y hy => by
  rcases List.mem_cons.mp hy with rfl | h
  · exact hx
  · exact ha y h
theorem pr_flat {ps : List (List Nat)} (h : ∀ p ∈ ps, pr p) : pr ps.flatten := fun x hx => by
  obtain ⟨p, h1, h2⟩ := List.mem_flatten.mp hx
  exact h p h1 x h2
theorem pr_of_flat {ps : List (List Nat)} (h : pr ps.flatten) : ∀ p ∈ ps, pr p := fun p hp x hx => h x (List.mem_flatten.mpr ⟨p, hp, hx⟩)
theorem hd_mem {t : List Nat} (h : wf t) : hd t ∈ t := by
  rw [(pts_spec h).1]
  exact List.mem_cons_self
theorem pr_pt {s : Nat} {t : List Nat} (h : wf t) (hp : pr t) : ∀ p ∈ pt s t, pr p := by
  unfold pt
  split
  · have h1 := (pts_spec h).1
    refine pr_of_flat (fun x hx => hp x ?_)
    rw [h1]
    exact List.mem_cons_of_mem _ hx
  · intro p hpp
    rw [List.mem_singleton.mp hpp]
    exact hp
theorem pr_0 : pr [0] := fun x hx => by
  rw [List.mem_singleton.mp hx]
  exact Or.inr (Or.inr (by decide))
theorem pr_1 : pr [1] := fun x hx => by
  rw [List.mem_singleton.mp hx]
  exact Or.inr (Or.inr (by decide))
theorem prI_3 : prI 3 := Or.inr (Or.inr (by decide))
theorem prI_6 : prI 6 := Or.inr (Or.inr (by decide))
theorem prI_7 : prI 7 := Or.inr (Or.inr (by decide))
theorem pr_60 : pr [6, 0] := pr_cons prI_6 pr_0
theorem pr_swS (s : Nat) : pr (swS s) := by
  unfold swS
  split
  · exact pr_60
  · exact pr_0
theorem pr_neS (s : Nat) : pr (neS s) := by
  unfold neS
  split
  · exact pr_0
  · exact pr_60
theorem ltS_le {s : Nat} {cs : List (List Nat)} (h : ∀ p ∈ cs, hd p / 8 ≤ 15) : ltS s cs ≤ 15 := by
  have q : ∀ (cs : List (List Nat)) (a : Nat), a ≤ 15 → (∀ p ∈ cs, hd p / 8 ≤ 15) → (cs.map (fun p => hd p / 8)).foldl (fun a b => if s = 4 then a ||| b else a &&& b) a ≤ 15 := by
    intro cs
    induction cs with
    | nil => intro a ha _; exact ha
    | cons p cs ih =>
      intro a ha h
      refine ih _ ?_ (fun q hq => h q (List.mem_cons_of_mem _ hq))
      have := h p List.mem_cons_self
      split
      · exact Nat.le_of_lt_succ (Nat.or_lt_two_pow (n := 4) (by omega) (by show hd p / 8 < 2 ^ 4; omega))
      · exact Nat.le_trans Nat.and_le_left ha
  exact q cs _ (by split <;> omega) h
theorem pr_mkS {s : Nat} (hs : s = 4 ∨ s = 5) {l : List (List Nat)} (h : ∀ p ∈ l, pr p) : pr (mkS s l) := by
  match l, h with
  | [], _ => exact pr_neS s
  | [p], h => exact h p List.mem_cons_self
  | p :: q :: r, h =>
    refine pr_cons ?_ (pr_flat h)
    right; left
    rw [List.length_cons, List.length_cons]
    constructor
    · omega
    · omega
theorem pr_uni {s : Nat} (hs : s = 4 ∨ s = 5) {ps : List (List Nat)} (hw : ∀ p ∈ ps, wf p) (h : ∀ p ∈ ps, pr p) : pr (uni s ps) := by
  unfold uni
  split
  · exact pr_swS s
  · split
    · exact pr_0
    · rename_i h0
      refine pr_mkS hs (fun p hp => ?_)
      rw [mem_srt, List.mem_append] at hp
      rcases hp with hp | hp
      · exact h p (List.mem_filter.mp hp).1
      · split at hp
        · cases hp
        · rename_i hne
          rw [List.mem_singleton.mp hp]
          intro x hx
          rw [List.mem_singleton.mp hx]
          left
          have h1 : ltS s (ps.filter (fun p => decide (hd p % 8 = 2))) ≠ 0 := fun q => h0 ⟨hne, q⟩
          have h2 := ltS_le (s := s) (cs := ps.filter (fun p => decide (hd p % 8 = 2))) (fun p hp => by
            obtain ⟨q1, q2⟩ := List.mem_filter.mp hp
            simp only [decide_eq_true_eq] at q2
            rcases h p q1 _ (hd_mem (hw p q1)) with q | q | q
            · exact q.2.2
            · omega
            · omega)
          omega
theorem pr_catF {b : List Nat} (hb : pr b) : ∀ (n : Nat) (a : List Nat), wf a → pr a → pr (catF n a b) := by
  intro n
  induction n with
  | zero => intro a _ ha; exact pr_cons prI_3 (pr_app ha hb)
  | succ n ih =>
    intro a wa ha
    unfold catF
    split
    · rename_i h
      obtain ⟨p, q, h1, h2, h3, h4⟩ := pts_two wa h
      rw [h1]
      rw [h4] at ha
      exact pr_cons prI_3 (pr_app (fun x hx => ha x (List.mem_cons_of_mem _ (List.mem_append_left _ hx))) (ih q h3 (fun x hx => ha x (List.mem_cons_of_mem _ (List.mem_append_right _ hx)))))
    · exact pr_cons prI_3 (pr_app ha hb)
theorem pr_catS {a b : List Nat} (wa : wf a) (ha : pr a) (hb : pr b) : pr (catS a b) := by
  unfold catS
  split
  · exact pr_0
  · split
    · exact hb
    · split
      · exact ha
      · exact pr_catF hb _ _ wa ha
theorem pr_notS {a : List Nat} (ha : pr a) : pr (notS a) := by
  unfold notS
  split
  · exact fun x hx => ha x (List.mem_of_mem_tail hx)
  · exact pr_cons prI_6 ha
theorem pr_starS {a : List Nat} (ha : pr a) : pr (starS a) := by
  unfold starS
  split
  · exact pr_1
  · split
    · exact ha
    · exact pr_cons prI_7 ha
theorem pr_DS {c : Nat} : ∀ t, wf t → pr t → pr (DS c t) := by
  refine wf_cases (P := fun t => pr t → pr (DS c t)) (fun x hx h => ?_) (fun x a b hx ha hb pa pb h => ?_) (fun x ps hx hl hp ih h => ?_) (fun x a hx ha pa h => ?_) (fun x a hx ha pa h => ?_)
  · rw [DS_leaf hx]
    split
    · exact pr_1
    · exact pr_0
  · have h1 : pr a := fun x hx => h x (List.mem_cons_of_mem _ (List.mem_append_left _ hx))
    have h2 : pr b := fun x hx => h x (List.mem_cons_of_mem _ (List.mem_append_right _ hx))
    have h3 := pr_catS (wf_DS (c := c) a ha) (pa h1) h2
    rw [DS_cat ha hb hx]
    split
    · refine pr_uni (Or.inl rfl) (fun p hp => ?_) (fun p hp => ?_)
      · rcases List.mem_append.mp hp with hp | hp
        · exact pt_wf (wf_catS (wf_DS a ha) hb) p hp
        · exact pt_wf (wf_DS b hb) p hp
      · rcases List.mem_append.mp hp with hp | hp
        · exact pr_pt (wf_catS (wf_DS a ha) hb) h3 p hp
        · exact pr_pt (wf_DS b hb) (pb h2) p hp
    · exact h3
  · have h1 : pr ps.flatten := fun x hx => h x (List.mem_cons_of_mem _ hx)
    rw [DS_several hl hp hx]
    refine pr_uni hx (fun p hpp => ?_) (fun p hpp => ?_)
    · obtain ⟨l, hl1, hl2⟩ := List.mem_flatten.mp hpp
      obtain ⟨q, hq, rfl⟩ := List.mem_map.mp hl1
      exact pt_wf (wf_DS q (hp q hq)) p hl2
    · obtain ⟨l, hl1, hl2⟩ := List.mem_flatten.mp hpp
      obtain ⟨q, hq, rfl⟩ := List.mem_map.mp hl1
      exact pr_pt (wf_DS q (hp q hq)) (ih q hq (pr_of_flat h1 q hq)) p hl2
  · rw [DS_not ha hx]
    exact pr_notS (pa (fun x hx => h x (List.mem_cons_of_mem _ hx)))
  · rw [DS_star ha hx]
    exact pr_catS (wf_DS a ha) (pa (fun x hx => h x (List.mem_cons_of_mem _ hx))) h
/-! how many parts -/
def mxb (t : List Nat) (m : Nat) : Prop := ∀ x ∈ t, (x % 8 = 4 ∨ x % 8 = 5) → x / 8 ≤ m
def kc (t : List Nat) : Nat := if hd t % 8 = 4 ∨ hd t % 8 = 5 then hd t / 8 else 1
theorem mxb.mono {t : List Nat} {m n : Nat} (h : mxb t m) (hm : m ≤ n) : mxb t n := fun x hx q => Nat.le_trans (h x hx q) hm
theorem flat_count {ps : List (List Nat)} (h : ∀ p ∈ ps, wf p) : ps.length ≤ ps.flatten.length := by
  induction ps with
  | nil => simp
  | cons p ps ih =>
    have h1 : 1 ≤ p.length := List.length_pos_iff.mpr (wf_ne (h p List.mem_cons_self))
    have h2 := ih (fun q hq => h q (List.mem_cons_of_mem _ hq))
    rw [List.length_cons, List.flatten_cons, List.length_append]
    omega
theorem wf_mxb : ∀ t, wf t → mxb t t.length := by
  refine wf_ind (P := fun t => mxb t t.length) (fun x ps hx hp ih => ?_)
  intro y hy hs
  rw [List.length_cons]
  rcases List.mem_cons.mp hy with rfl | hy
  · have := flat_count hp
    rw [ar_n hs] at hx
    omega
  · obtain ⟨p, h1, h2⟩ := List.mem_flatten.mp hy
    have := ih p h1 y h2 hs
    have := mem_flatten_len h1
    omega
theorem kc_pos {t : List Nat} (h : wf t) (hp : pr t) : 1 ≤ kc t := by
  unfold kc
  split
  · rcases hp _ (hd_mem h) with q | q | q <;> omega
  · exact Nat.le_refl _
theorem pt_kc {s : Nat} (hs : s = 4 ∨ s = 5) {t : List Nat} (h : wf t) (hp : pr t) : (pt s t).length ≤ kc t := by
  have h1 := kc_pos h hp
  unfold pt
  split
  · rename_i e
    have h2 := (pts_spec h).2.1
    have hh : hd t % 8 = 4 ∨ hd t % 8 = 5 := by omega
    rw [ar_n hh] at h2
    unfold kc
    rw [if_pos hh, h2]
    exact Nat.le_refl _
  · exact h1
theorem pt_mx {s m : Nat} (hs : s = 4 ∨ s = 5) {t : List Nat} (h : wf t) (hm : mxb t m) (h1 : 1 ≤ m) : (pt s t).length ≤ m := by
  unfold pt
  split
  · rename_i e
    have h2 := (pts_spec h).2.1
    have hh : hd t % 8 = 4 ∨ hd t % 8 = 5 := by omega
    rw [ar_n hh] at h2
    rw [← h2]
    exact hm _ (hd_mem h) hh
  · exact h1
theorem pt_mxb {s m : Nat} {t : List Nat} (h : wf t) (hm : mxb t m) : ∀ p ∈ pt s t, mxb p m := by
  unfold pt
  split
  · have h1 := (pts_spec h).1
    intro p hp x hx
    refine hm x ?_
    rw [h1]
    exact List.mem_cons_of_mem _ (List.mem_flatten.mpr ⟨p, hp, hx⟩)
  · intro p hpp
    rw [List.mem_singleton.mp hpp]
    exact hm
theorem ins_cnt (p : List Nat) (l : List (List Nat)) : (ins p l).length ≤ l.length + 1 := by
  induction l with
  | nil => simp [ins]
  | cons q r ih =>
    unfold ins
    split
    · simp
    · split
      · simp
      · rw [List.length_cons, List.length_cons]; omega
theorem srt_cnt (ps : List (List Nat)) : (srt ps).length ≤ ps.length := by
  have q : ∀ (ps l : List (List Nat)), (ps.foldl (fun l p => ins p l) l).length ≤ ps.length + l.length := by
    intro ps
    induction ps with
    | nil => intro l; simp
    | cons p ps ih =>
      intro l
      rw [List.foldl_cons, List.length_cons]
      have := ih (ins p l)
      have := ins_cnt p l
      omega
  exact q ps []
theorem filt_cnt {ps : List (List Nat)} (f g : List Nat → Bool) (hfg : ∀ p, f p = true → g p = true → False) : (ps.filter f).length + (if ps.filter g = [] then 0 else 1) ≤ ps.length := by
  induction ps with
  | nil => simp
  | cons p ps ih =>
    rw [List.length_cons]
    by_cases hf : f p = true
    · have hg : ¬ g p = true := fun q => hfg p hf q
      rw [List.filter_cons_of_pos hf, List.filter_cons_of_neg hg, List.length_cons]
      omega
    · rw [List.filter_cons_of_neg hf]
      by_cases hg : g p = true
      · rw [List.filter_cons_of_pos hg, if_neg (by simp)]
        split at ih <;> omega
      · rw [List.filter_cons_of_neg hg]
        omega
theorem mxb_uni {s m : Nat} (hs : s = 4 ∨ s = 5) {ps : List (List Nat)} (h : ∀ p ∈ ps, mxb p m) (hl : ps.length ≤ m) : mxb (uni s ps) m := by
  have h60 : ∀ n, mxb [6, 0] n := fun n x hx q => by
    simp only [List.mem_cons, List.not_mem_nil, or_false] at hx
    omega
  have h0 : ∀ n, mxb [0] n := fun n x hx q => by
    rw [List.mem_singleton.mp hx] at q
    omega
  unfold uni
  split
  · unfold swS
    split
    · exact h60 m
    · exact h0 m
  · split
    · exact h0 m
    · have h1 := filt_cnt (ps := ps) (fun p => decide (¬ hd p % 8 = 2 ∧ p ≠ neS s)) (fun p => decide (hd p % 8 = 2)) (fun p q1 q2 => by
        simp only [decide_eq_true_eq] at q1 q2
        exact q1.1 q2)
      have h2 := srt_cnt (ps.filter (fun p => decide (¬ hd p % 8 = 2 ∧ p ≠ neS s)) ++ (if ps.filter (fun p => decide (hd p % 8 = 2)) = [] then [] else [[2 + 8 * ltS s (ps.filter (fun p => decide (hd p % 8 = 2)))]]))
      have h3 : (if ps.filter (fun p => decide (hd p % 8 = 2)) = [] then [] else [[2 + 8 * ltS s (ps.filter (fun p => decide (hd p % 8 = 2)))]]).length = if ps.filter (fun p => decide (hd p % 8 = 2)) = [] then 0 else 1 := by
        split <;> simp
      rw [List.length_append, h3] at h2
      have h4 : ∀ p ∈ srt (ps.filter (fun p => decide (¬ hd p % 8 = 2 ∧ p ≠ neS s)) ++ (if ps.filter (fun p => decide (hd p % 8 = 2)) = [] then [] else [[2 + 8 * ltS s (ps.filter (fun p => decide (hd p % 8 = 2)))]])), mxb p m := by
        intro p hp
        rw [mem_srt, List.mem_append] at hp
        rcases hp with hp | hp
        · exact h p (List.mem_filter.mp hp).1
        · split at hp
          · cases hp
          · rw [List.mem_singleton.mp hp]
            intro x hx q
            rw [List.mem_singleton.mp hx] at q
            omega
      generalize srt (ps.filter (fun p => decide (¬ hd p % 8 = 2 ∧ p ≠ neS s)) ++ (if ps.filter (fun p => decide (hd p % 8 = 2)) = [] then [] else [[2 + 8 * ltS s (ps.filter (fun p => decide (hd p % 8 = 2)))]])) = l at h2 h4
      match l, h2, h4 with
      | [], _, _ =>
        show mxb (neS s) m
        unfold neS
        split
        · exact h0 m
        · exact h60 m
      | [p], _, h4 => exact h4 p List.mem_cons_self
      | p :: q :: r, h2, h4 =>
        intro x hx hq
        have hx : x ∈ (s + 8 * (p :: q :: r).length) :: (p :: q :: r).flatten := hx
        rcases List.mem_cons.mp hx with e | hx
        · omega
        · obtain ⟨y, h5, h6⟩ := List.mem_flatten.mp hx
          exact h4 y h5 x h6 hq
theorem mem_catF {x : Nat} {b : List Nat} : ∀ (n : Nat) (a : List Nat), wf a → x ∈ catF n a b → x = 3 ∨ x ∈ a ∨ x ∈ b := by
  intro n
  induction n with
  | zero =>
    intro a _ h
    rcases List.mem_cons.mp h with h | h
    · exact Or.inl h
    · exact Or.inr (List.mem_append.mp h)
  | succ n ih =>
    intro a wa h
    unfold catF at h
    split at h
    · rename_i h0
      obtain ⟨p, q, h1, h2, h3, h4⟩ := pts_two wa h0
      rw [h1] at h
      rcases List.mem_cons.mp h with h | h
      · exact Or.inl h
      · rcases List.mem_append.mp h with h | h
        · exact Or.inr (Or.inl (by rw [h4]; exact List.mem_cons_of_mem _ (List.mem_append_left _ h)))
        · rcases ih q h3 h with h | h | h
          · exact Or.inl h
          · exact Or.inr (Or.inl (by rw [h4]; exact List.mem_cons_of_mem _ (List.mem_append_right _ h)))
          · exact Or.inr (Or.inr h)
    · rcases List.mem_cons.mp h with h | h
      · exact Or.inl h
      · exact Or.inr (List.mem_append.mp h)
theorem hd_catF (n : Nat) (a b : List Nat) : hd (catF n a b) = 3 := by
  cases n with
  | zero => rfl
  | succ n =>
    unfold catF
    split <;> rfl
theorem mem_catS {x : Nat} {a b : List Nat} (wa : wf a) (h : x ∈ catS a b) : x = 0 ∨ x = 3 ∨ x ∈ a ∨ x ∈ b := by
  unfold catS at h
  split at h
  · exact Or.inl (List.mem_singleton.mp h)
  · split at h
    · exact Or.inr (Or.inr (Or.inr h))
    · split at h
      · exact Or.inr (Or.inr (Or.inl h))
      · exact Or.inr (mem_catF _ _ wa h)
theorem mxb_catS {m : Nat} {a b : List Nat} (wa : wf a) (ha : mxb a m) (hb : mxb b m) : mxb (catS a b) m := fun x hx q => by
  rcases mem_catS wa hx with h | h | h | h
  · omega
  · omega
  · exact ha x h q
  · exact hb x h q
theorem pt_catS {s m k : Nat} (hs : s = 4 ∨ s = 5) {a b : List Nat} (wa : wf a) (h1 : (pt s a).length ≤ m) (h2 : (pt s b).length ≤ m) (h3 : 1 ≤ m) : (pt s (catS a b)).length ≤ m := by
  unfold catS
  split
  · have : pt s [0] = [[0]] := if_neg (by show ¬ 0 % 8 = s; omega)
    rw [this]
    exact h3
  · split
    · exact h2
    · split
      · exact h1
      · have : pt s (catF a.length a b) = [catF a.length a b] := if_neg (by rw [hd_catF]; omega)
        rw [this]
        exact h3
theorem parts_sum {c s : Nat} (hs : s = 4 ∨ s = 5) : ∀ (ps : List (List Nat)), (∀ p ∈ ps, wf p) → (∀ p ∈ ps, pr p) → (∀ p ∈ ps, ∃ m, mxb (DS c p) m ∧ 1 ≤ m ∧ kc p + m ≤ 2 * p.length) → ∃ m, (∀ p ∈ ps, mxb (DS c p) m) ∧ ((ps.map (fun p => pt s (DS c p))).flatten).length ≤ m ∧ m + ps.length ≤ 2 * ps.flatten.length := by
  intro ps
  induction ps with
  | nil => intro _ _ _; exact ⟨0, ⟨(fun p hp => by cases hp), by simp, by simp⟩⟩
  | cons p ps ih =>
    intro hw hp h
    obtain ⟨m, h1, h2, h3⟩ := ih (fun q hq => hw q (List.mem_cons_of_mem _ hq)) (fun q hq => hp q (List.mem_cons_of_mem _ hq)) (fun q hq => h q (List.mem_cons_of_mem _ hq))
    obtain ⟨n, g1, g2, g3⟩ := h p List.mem_cons_self
    have hk := kc_pos (hw p List.mem_cons_self) (hp p List.mem_cons_self)
    have hq := pt_mx hs (wf_DS (c := c) p (hw p List.mem_cons_self)) g1 g2
    refine ⟨m + n, fun q hq => ?_, ?_, ?_⟩
    · rcases List.mem_cons.mp hq with rfl | hq
      · exact g1.mono (by omega)
      · exact (h1 q hq).mono (by omega)
    · rw [List.map_cons, List.flatten_cons, List.length_append]
      omega
    · rw [List.length_cons, List.flatten_cons, List.length_append]
      omega
theorem mx_DS {c : Nat} : ∀ t, wf t → pr t → ∃ m, mxb (DS c t) m ∧ 1 ≤ m ∧ kc t + m ≤ 2 * t.length := by
  refine wf_cases (P := fun t => pr t → ∃ m, mxb (DS c t) m ∧ 1 ≤ m ∧ kc t + m ≤ 2 * t.length) (fun x hx h => ?_) (fun x a b hx ha hb pa pb h => ?_) (fun x ps hx hl hp ih h => ?_) (fun x a hx ha pa h => ?_) (fun x a hx ha pa h => ?_)
  · refine ⟨1, ?_, Nat.le_refl _, ?_⟩
    · rw [DS_leaf hx]
      intro y hy q
      split at hy <;> (rw [List.mem_singleton.mp hy] at q; omega)
    · have : kc [x] = 1 := if_neg (by show ¬ (x % 8 = 4 ∨ x % 8 = 5); omega)
      rw [this]
      simp
  · have p1 : pr a := fun x hx => h x (List.mem_cons_of_mem _ (List.mem_append_left _ hx))
    have p2 : pr b := fun x hx => h x (List.mem_cons_of_mem _ (List.mem_append_right _ hx))
    obtain ⟨m, a1, a2, a3⟩ := pa p1
    obtain ⟨n, b1, b2, b3⟩ := pb p2
    have ka := kc_pos ha p1
    have kb := kc_pos hb p2
    have hk : kc (x :: (a ++ b)) = 1 := if_neg (by show ¬ (x % 8 = 4 ∨ x % 8 = 5); omega)
    have wb := wf_mxb b hb
    have e1 : mxb (catS (DS c a) b) (max (max m (kc b) + n) b.length) := mxb_catS (wf_DS a ha) (a1.mono (by omega)) (wb.mono (by omega))
    refine ⟨max (max m (kc b) + n) b.length, ?_, by omega, ?_⟩
    · rw [DS_cat ha hb hx]
      split
      · refine mxb_uni (Or.inl rfl) (fun p hp => ?_) ?_
        · rcases List.mem_append.mp hp with hp | hp
          · exact pt_mxb (wf_catS (wf_DS a ha) hb) e1 p hp
          · exact pt_mxb (wf_DS b hb) (b1.mono (by omega)) p hp
        · rw [List.length_append]
          have q1 := pt_catS (k := 0) (s := 4) (m := max m (kc b)) (Or.inl rfl) (wf_DS (c := c) a ha) (Nat.le_trans (pt_mx (Or.inl rfl) (wf_DS a ha) a1 a2) (by omega)) (Nat.le_trans (pt_kc (Or.inl rfl) hb p2) (by omega)) (by omega)
          have q2 := pt_mx (s := 4) (Or.inl rfl) (wf_DS (c := c) b hb) b1 b2
          omega
      · exact e1
    · rw [hk, List.length_cons, List.length_append]
      omega
  · have h1 : pr ps.flatten := fun x hx => h x (List.mem_cons_of_mem _ hx)
    obtain ⟨m, g1, g2, g3⟩ := parts_sum (c := c) hx ps hp (pr_of_flat h1) (fun p hpp => ih p hpp (pr_of_flat h1 p hpp))
    have hk : kc (x :: ps.flatten) = x / 8 := if_pos hx
    rw [ar_n hx] at hl
    have := flat_count hp
    refine ⟨max m 1, ?_, by omega, ?_⟩
    · rw [DS_several (by rw [ar_n hx]; exact hl) hp hx]
      refine mxb_uni hx (fun p hpp => ?_) (by omega)
      obtain ⟨l, hl1, hl2⟩ := List.mem_flatten.mp hpp
      obtain ⟨q, hq, rfl⟩ := List.mem_map.mp hl1
      exact pt_mxb (wf_DS q (hp q hq)) ((g1 q hq).mono (by omega)) p hl2
    · rw [hk, List.length_cons]
      omega
  · obtain ⟨m, a1, a2, a3⟩ := pa (fun x hx => h x (List.mem_cons_of_mem _ hx))
    have ka := kc_pos ha (fun x hx => h x (List.mem_cons_of_mem _ hx))
    have hk : kc (x :: a) = 1 := if_neg (by show ¬ (x % 8 = 4 ∨ x % 8 = 5); omega)
    refine ⟨m, ?_, a2, by rw [hk, List.length_cons]; omega⟩
    rw [DS_not ha hx]
    intro y hy q
    unfold notS at hy
    split at hy
    · exact a1 y (List.mem_of_mem_tail hy) q
    · rcases List.mem_cons.mp hy with e | hy
      · omega
      · exact a1 y hy q
  · obtain ⟨m, a1, a2, a3⟩ := pa (fun x hx => h x (List.mem_cons_of_mem _ hx))
    have ka := kc_pos ha (fun x hx => h x (List.mem_cons_of_mem _ hx))
    have hk : kc (x :: a) = 1 := if_neg (by show ¬ (x % 8 = 4 ∨ x % 8 = 5); omega)
    have wa := wf_mxb a ha
    refine ⟨max m a.length, ?_, by omega, by rw [hk, List.length_cons]; omega⟩
    rw [DS_star ha hx]
    refine mxb_catS (wf_DS a ha) (a1.mono (by omega)) (fun y hy q => ?_)
    rcases List.mem_cons.mp hy with e | hy
    · omega
    · exact Nat.le_trans (wa y hy q) (by omega)
theorem sm_of {t : List Nat} {m : Nat} (hp : pr t) (hm : mxb t m) (h : m ≤ 130000) : sm t := fun x hx => by
  rcases hp x hx with q | q | q
  · omega
  · have := hm x hx q.1
    omega
  · omega
/-- items of a derivative of a term that isn't too large -/
theorem sm_DS {c : Nat} {t : List Nat} (h : wf t) (hp : pr t) (hl : t.length ≤ 300) : sm (DS c t) := by
  obtain ⟨m, h1, h2, h3⟩ := mx_DS (c := c) t h hp
  exact sm_of (pr_DS t h hp) h1 (by omega)
theorem sm_wf {t : List Nat} (h : wf t) (hp : pr t) (hl : t.length ≤ 130000) : sm t := sm_of hp (wf_mxb t h) hl
