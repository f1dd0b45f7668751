/-! STEP 2: the terms that a term leads to -/
def run (t : List Nat) (w : List Nat) : List Nat := w.foldl (fun t c => DS c t) t
def lw4 (w : List Nat) : Prop := ∀ c ∈ w, c < 4
def Rc (t u : List Nat) : Prop := ∃ w, lw4 w ∧ u = run t w
/-- a term with a state too large, or with too many -/
def Big (t : List Nat) : Prop := (∃ u, Rc t u ∧ 300 < u.length) ∨ (∃ l : List (List Nat), l.Nodup ∧ 150 < l.length ∧ ∀ u ∈ l, Rc t u)
/-- all that a term leads to, in the order in which it is found -/
def Mch (t : List Nat) (q : List (List Nat)) : Prop := q.Nodup ∧ q.length ≤ 150 ∧ q[0]? = some t ∧ (∀ u ∈ q, wf u ∧ pr u ∧ u.length ≤ 300) ∧ (∀ u ∈ q, ∀ c, c < 4 → DS c u ∈ q) ∧ (∀ i, 0 < i → i < q.length → ∃ j, j < i ∧ ∃ c, c < 4 ∧ DS c (q.getD j []) = q.getD i [])
theorem run_app (t : List Nat) (a b : List Nat) : run t (a ++ b) = run (run t a) b := by
  unfold run
  rw [List.foldl_append]
theorem Rc.rf (t : List Nat) : Rc t t := ⟨[], (fun c hc => by cases hc), rfl⟩
theorem Rc.step {t u : List Nat} {c : Nat} (h : Rc t u) (hc : c < 4) : Rc t (DS c u) := by
  obtain ⟨w, h1, h2⟩ := h
  refine ⟨w ++ [c], fun d hd => ?_, ?_⟩
  · rcases List.mem_append.mp hd with h | h
    · exact h1 d h
    · rw [List.mem_singleton.mp h]; exact hc
  · rw [run_app, ← h2]
    rfl
theorem Mch.all {t : List Nat} {q : List (List Nat)} (h : Mch t q) : ∀ u, Rc t u → u ∈ q := by
  have h0 : t ∈ q := List.mem_of_getElem? h.2.2.1
  have hs := h.2.2.2.2.1
  have go : ∀ (w : List Nat) (u : List Nat), u ∈ q → lw4 w → run u w ∈ q := by
    intro w
    induction w with
    | nil => intro u hu _; exact hu
    | cons c w ih => intro u hu hw; exact ih (DS c u) (hs u hu c (hw c List.mem_cons_self)) (fun d hd => hw d (List.mem_cons_of_mem _ hd))
  intro u ⟨w, hw, e⟩
  rw [e]
  exact go w t h0 hw
theorem nodup_le : ∀ (l m : List (List Nat)), l.Nodup → (∀ x ∈ l, x ∈ m) → l.length ≤ m.length := by
  intro l
  induction l with
  | nil => intro m _ _; exact Nat.zero_le _
  | cons x l ih =>
    intro m hn hs
    rw [List.nodup_cons] at hn
    obtain ⟨a, b, hab⟩ := List.append_of_mem (hs x List.mem_cons_self)
    have := ih (a ++ b) hn.2 (fun y hy => by
      have h1 := hs y (List.mem_cons_of_mem _ hy)
      rw [hab] at h1
      rcases List.mem_append.mp h1 with h | h
      · exact List.mem_append_left _ h
      · rcases List.mem_cons.mp h with h | h
        · subst h; exact absurd hy hn.1
        · exact List.mem_append_right _ h)
    rw [hab, List.length_append, List.length_cons, List.length_cons]
    rw [List.length_append] at this
    omega
theorem Mch.nBig {t : List Nat} {q : List (List Nat)} (h : Mch t q) : ¬ Big t := by
  intro hb
  rcases hb with ⟨u, h1, h2⟩ | ⟨l, h1, h2, h3⟩
  · have := (h.2.2.2.1 u (h.all u h1)).2.2
    omega
  · have := nodup_le l q h1 (fun x hx => h.all x (h3 x hx))
    have := h.2.1
    omega
/-- where a term stands in a row; the row's length when it doesn't -/
def ix (T : List Nat) (q : List (List Nat)) : Nat := match q with
  | [] => 0
  | x :: r => if x = T then 0 else ix T r + 1
theorem ix_le (T : List Nat) (q : List (List Nat)) : ix T q ≤ q.length := by
  induction q with
  | nil => exact Nat.le_refl _
  | cons x r ih =>
    unfold ix
    split
    · exact Nat.zero_le _
    · rw [List.length_cons]; omega
theorem ix_mem {T : List Nat} {q : List (List Nat)} (h : T ∈ q) : ix T q < q.length ∧ q.getD (ix T q) [] = T := by
  induction q with
  | nil => cases h
  | cons x r ih =>
    unfold ix
    by_cases hx : x = T
    · rw [if_pos hx]
      exact ⟨by simp, by simpa using hx⟩
    · rw [if_neg hx]
      have h2 : T ∈ r := by
        rcases List.mem_cons.mp h with h | h
        · exact absurd h.symm hx
        · exact h
      have := ih h2
      exact ⟨by rw [List.length_cons]; omega, by simpa using this.2⟩
theorem ix_not {T : List Nat} {q : List (List Nat)} (h : T ∉ q) : ix T q = q.length := by
  induction q with
  | nil => rfl
  | cons x r ih =>
    unfold ix
    rw [if_neg (fun e => h (by rw [e]; exact List.mem_cons_self)), ih (fun e => h (List.mem_cons_of_mem _ e))]
    rfl
theorem ix_app {T : List Nat} {q p : List (List Nat)} (h : T ∈ q) : ix T (q ++ p) = ix T q := by
  induction q with
  | nil => cases h
  | cons x r ih =>
    rw [List.cons_append]
    unfold ix
    by_cases hx : x = T
    · rw [if_pos hx, if_pos hx]
    · rw [if_neg hx, if_neg hx, ih (by
        rcases List.mem_cons.mp h with h | h
        · exact absurd h.symm hx
        · exact h)]
theorem ix_new {T : List Nat} {q p : List (List Nat)} (h : T ∉ q) : ix T (q ++ T :: p) = q.length := by
  induction q with
  | nil => simp [ix]
  | cons x r ih =>
    rw [List.cons_append]
    unfold ix
    rw [if_neg (fun e => h (by rw [e]; exact List.mem_cons_self)), ih (fun e => h (List.mem_cons_of_mem _ e))]
    rfl
theorem getD_app_l {q p : List (List Nat)} {i : Nat} (h : i < q.length) : (q ++ p).getD i [] = q.getD i [] := by
  rw [List.getD_eq_getElem?_getD, List.getElem?_append_left h, ← List.getD_eq_getElem?_getD]
theorem getD_mem {q : List (List Nat)} {i : Nat} (h : i < q.length) : q.getD i [] ∈ q := by
  rw [List.getD_eq_getElem?_getD, List.getElem?_eq_getElem h, Option.getD_some]
  exact List.getElem_mem h
theorem getD_some {q : List (List Nat)} {i : Nat} (h : i < q.length) : q[i]? = some (q.getD i []) := by
  rw [List.getD_eq_getElem?_getD, List.getElem?_eq_getElem h, Option.getD_some]
theorem getD_of {q : List (List Nat)} {i : Nat} {u : List Nat} (h : q[i]? = some u) : i < q.length ∧ q.getD i [] = u := by
  refine ⟨(List.getElem?_eq_some_iff.mp h).1, ?_⟩
  rw [List.getD_eq_getElem?_getD, h, Option.getD_some]
