/-! STEP 2: terms written out, in prefix writing: an item is its sort and, above three bits, how many or which letters -/
def ar (x : Nat) : Nat := if x % 8 < 3 then 0 else if x % 8 = 3 then 2 else if 5 < x % 8 then 1 else x / 8
/-- a fold from the right with a stack: each item takes as many values as it has parts -/
def sf {α : Type} (f : Nat → List α → α) (t : List Nat) (st : List α) : Option (List α) := match t with
  | [] => some st
  | x :: r => (sf f r st).bind fun s => if ar x ≤ s.length then some (f x (s.take (ar x)) :: s.drop (ar x)) else none
theorem sf_nil {α : Type} (f : Nat → List α → α) (st : List α) : sf f [] st = some st := rfl
theorem sf_cons {α : Type} (f : Nat → List α → α) (x : Nat) (r : List Nat) (st : List α) : sf f (x :: r) st = (sf f r st).bind fun s => if ar x ≤ s.length then some (f x (s.take (ar x)) :: s.drop (ar x)) else none := rfl
theorem sf_app {α : Type} (f : Nat → List α → α) (t r : List Nat) (st : List α) : sf f (t ++ r) st = (sf f r st).bind (sf f t) := by
  induction t with
  | nil => show sf f r st = _; cases sf f r st <;> rfl
  | cons x t ih =>
    rw [List.cons_append, sf_cons, ih]
    cases sf f r st with
    | none => rfl
    | some s => rfl
theorem sf_more {α : Type} (f : Nat → List α → α) (t : List Nat) {s0 s1 : List α} (h : sf f t s0 = some s1) (s : List α) : sf f t (s0 ++ s) = some (s1 ++ s) := by
  induction t generalizing s1 with
  | nil => rw [sf_nil] at h ⊢; cases h; rfl
  | cons x t ih =>
    rw [sf_cons] at h
    cases h1 : sf f t s0 with
    | none => rw [h1] at h; cases h
    | some s2 =>
      rw [h1] at h
      rw [sf_cons, ih h1]
      simp only [Option.bind_some] at h ⊢
      by_cases h2 : ar x ≤ s2.length
      · rw [if_pos h2] at h
        cases h
        rw [if_pos (by rw [List.length_append]; omega), List.take_append_of_le_length h2, List.drop_append_of_le_length h2]
        rfl
      · rw [if_neg h2] at h
        cases h
/-- the number of whole terms that stand in a list -/
def cn (t : List Nat) : Option Nat := match t with
  | [] => some 0
  | x :: r => (cn r).bind fun k => if ar x ≤ k then some (k - ar x + 1) else none
theorem cn_cons (x : Nat) (r : List Nat) : cn (x :: r) = (cn r).bind fun k => if ar x ≤ k then some (k - ar x + 1) else none := rfl
theorem sf_cn {α : Type} (f : Nat → List α → α) (t : List Nat) : (sf f t []).map List.length = cn t := by
  induction t with
  | nil => rfl
  | cons x t ih =>
    rw [sf_cons, cn_cons, ← ih]
    cases sf f t [] with
    | none => rfl
    | some s =>
      simp only [Option.bind_some, Option.map_some]
      by_cases h : ar x ≤ s.length
      · rw [if_pos h, if_pos h]; simp
      · rw [if_neg h, if_neg h]; rfl
def wf (t : List Nat) : Prop := cn t = some 1
theorem cn_zero {t : List Nat} (h : cn t = some 0) : t = [] := by
  cases t with
  | nil => rfl
  | cons x r =>
    rw [cn_cons] at h
    cases h1 : cn r with
    | none => rw [h1] at h; cases h
    | some k =>
      rw [h1] at h
      simp only [Option.bind_some] at h
      split at h
      · cases h
      · cases h
theorem cn_app {t r : List Nat} {a b : Nat} (h1 : cn t = some a) (h2 : cn r = some b) : cn (t ++ r) = some (a + b) := by
  have q1 := sf_cn (fun _ _ => ()) t
  have q2 := sf_cn (fun _ _ => ()) r
  rw [h1] at q1
  rw [h2] at q2
  rw [← sf_cn (fun _ _ => ()), sf_app]
  cases e1 : sf (fun _ _ => ()) r [] with
  | none => rw [e1] at q2; cases q2
  | some s =>
    cases e2 : sf (fun _ _ => ()) t [] with
    | none => rw [e2] at q1; cases q1
    | some s2 =>
      rw [e1] at q2
      rw [e2] at q1
      have := sf_more (fun _ _ => ()) t e2 s
      simp only [Option.bind_some, List.nil_append] at this ⊢
      rw [this]
      simp only [Option.map_some, Option.some.injEq, List.length_append] at q1 q2 ⊢
      omega
theorem wf_ne {t : List Nat} (h : wf t) : t ≠ [] := by
  intro q
  subst q
  cases h
/-- what the fold says of a whole term -/
def vl {α : Type} (f : Nat → List α → α) (d : α) (t : List Nat) : α := ((sf f t []).getD []).headD d
theorem wf_sf {α : Type} (f : Nat → List α → α) (d : α) {t : List Nat} (h : wf t) (st : List α) : sf f t st = some (vl f d t :: st) := by
  have q := sf_cn f t
  rw [show cn t = some 1 from h] at q
  cases e : sf f t [] with
  | none => rw [e] at q; cases q
  | some s =>
    rw [e] at q
    simp only [Option.map_some, Option.some.injEq] at q
    have h2 := sf_more f t e st
    rw [List.nil_append] at h2
    rw [h2]
    unfold vl
    rw [e]
    match s, q with
    | [v], _ => rfl
/-- a term as its head and its parts -/
theorem wf_mk {x : Nat} {ps : List (List Nat)} (hx : ar x = ps.length) (hp : ∀ p ∈ ps, wf p) : wf (x :: ps.flatten) := by
  have q : cn ps.flatten = some ps.length := by
    clear hx
    induction ps with
    | nil => rfl
    | cons p ps ih =>
      rw [List.flatten_cons, List.length_cons]
      have := cn_app (hp p List.mem_cons_self) (ih (fun q hq => hp q (List.mem_cons_of_mem _ hq)))
      rw [this]
      congr 1
      omega
  unfold wf
  rw [cn_cons, q]
  simp only [Option.bind_some]
  rw [if_pos (by omega), hx]
  simp
theorem sf_parts {α : Type} (f : Nat → List α → α) (d : α) {ps : List (List Nat)} (hp : ∀ p ∈ ps, wf p) (st : List α) : sf f ps.flatten st = some (ps.map (vl f d) ++ st) := by
  induction ps with
  | nil => rfl
  | cons p ps ih =>
    rw [List.flatten_cons, sf_app, ih (fun q hq => hp q (List.mem_cons_of_mem _ hq))]
    simp only [Option.bind_some]
    rw [wf_sf f d (hp p List.mem_cons_self)]
    rfl
theorem vl_mk {α : Type} (f : Nat → List α → α) (d : α) {x : Nat} {ps : List (List Nat)} (hx : ar x = ps.length) (hp : ∀ p ∈ ps, wf p) : vl f d (x :: ps.flatten) = f x (ps.map (vl f d)) := by
  have h := wf_sf f d (wf_mk hx hp) []
  rw [sf_cons, sf_parts f d hp []] at h
  simp only [Option.bind_some, List.append_nil] at h
  rw [if_pos (by simp [hx])] at h
  simp only [Option.some.injEq, List.cons.injEq] at h
  rw [← h.1, hx]
  congr 1
  rw [List.take_of_length_le (by simp)]
/-- every whole term is a head and its parts -/
theorem cn_split {t : List Nat} {n : Nat} (h : cn t = some n) : ∃ ps : List (List Nat), t = ps.flatten ∧ ps.length = n ∧ ∀ p ∈ ps, wf p := by
  induction t generalizing n with
  | nil =>
    cases h
    exact ⟨[], rfl, rfl, fun p hp => by cases hp⟩
  | cons x r ih =>
    rw [cn_cons] at h
    cases h1 : cn r with
    | none => rw [h1] at h; cases h
    | some k =>
      rw [h1] at h
      simp only [Option.bind_some] at h
      split at h
      · rename_i hk
        cases h
        obtain ⟨ps, e1, e2, e3⟩ := ih h1
        refine ⟨(x :: (ps.take (ar x)).flatten) :: ps.drop (ar x), ?_, ?_, ?_⟩
        · rw [e1, List.flatten_cons, List.cons_append, ← List.flatten_append, List.take_append_drop]
        · simp [e2]
        · intro p hp
          rcases List.mem_cons.mp hp with rfl | hp
          · exact wf_mk (by rw [List.length_take, e2]; omega) (fun q hq => e3 q (List.mem_of_mem_take hq))
          · exact e3 p (List.mem_of_mem_drop hp)
      · cases h
theorem wf_split {t : List Nat} (h : wf t) : ∃ (x : Nat) (ps : List (List Nat)), t = x :: ps.flatten ∧ ar x = ps.length ∧ ∀ p ∈ ps, wf p := by
  cases t with
  | nil => cases h
  | cons x r =>
    have h : cn (x :: r) = some 1 := h
    rw [cn_cons] at h
    cases h1 : cn r with
    | none => rw [h1] at h; cases h
    | some k =>
      rw [h1] at h
      simp only [Option.bind_some] at h
      split at h
      · rename_i hk
        simp only [Option.some.injEq] at h
        obtain ⟨ps, e1, e2, e3⟩ := cn_split h1
        exact ⟨x, ps, by rw [e1], by omega, e3⟩
      · cases h
/-- from the left: how many are due; a list of n whole terms is used up just when none is due -/
def du (t : List Nat) (n : Nat) : Nat := match t with
  | [] => n
  | x :: r => du r (n - 1 + ar x)
theorem wf_pre {t u r r' : List Nat} {n : Nat} (ht : cn t = some n) (hu : cn u = some n) (h : t ++ r = u ++ r') : t = u := by
  induction t generalizing u n with
  | nil =>
    cases ht
    exact (cn_zero hu).symm
  | cons x t ih =>
    cases u with
    | nil =>
      cases hu
      exact cn_zero ht
    | cons y u =>
      rw [List.cons_append, List.cons_append, List.cons.injEq] at h
      obtain ⟨rfl, h⟩ := h
      rw [cn_cons] at ht hu
      cases h1 : cn t with
      | none => rw [h1] at ht; cases ht
      | some k =>
        cases h2 : cn u with
        | none => rw [h2] at hu; cases hu
        | some k2 =>
          rw [h1] at ht
          rw [h2] at hu
          simp only [Option.bind_some] at ht hu
          split at ht
          · split at hu
            · simp only [Option.some.injEq] at ht hu
              have : k2 = k := by omega
              subst this
              rw [ih h1 h2 h]
            · cases hu
          · cases ht
