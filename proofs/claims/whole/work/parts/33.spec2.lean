/-! STEP 2: how terms are kept, and their derivatives, on terms written out -/
def hd (t : List Nat) : Nat := t.headD 0
def tpF (x : Nat) (ks : List (List Nat × List (List Nat))) : List Nat × List (List Nat) := (x :: (ks.map Prod.fst).flatten, ks.map Prod.fst)
theorem mem_flatten_len {p : List Nat} {ps : List (List Nat)} (h : p ∈ ps) : p.length ≤ ps.flatten.length := by
  induction ps with
  | nil => cases h
  | cons q ps ih =>
    rw [List.flatten_cons, List.length_append]
    rcases List.mem_cons.mp h with rfl | h
    · omega
    · have := ih h
      omega
theorem tp_id : ∀ (n : Nat) (t : List Nat), t.length ≤ n → wf t → (vl tpF ([], []) t).1 = t := by
  intro n
  induction n with
  | zero =>
    intro t h1 h2
    exact absurd (List.length_eq_zero_iff.mp (by omega)) (wf_ne h2)
  | succ n ih =>
    intro t h1 h2
    obtain ⟨x, ps, rfl, hx, hp⟩ := wf_split h2
    rw [vl_mk tpF _ hx hp]
    show x :: ((ps.map (vl tpF ([], []))).map Prod.fst).flatten = _
    rw [List.map_map]
    have : ps.map (Prod.fst ∘ vl tpF ([], [])) = ps := by
      conv => rhs; rw [← List.map_id ps]
      apply List.map_congr_left
      intro p hpp
      have := mem_flatten_len hpp
      exact ih p (by rw [List.length_cons] at h1; omega) (hp p hpp)
    rw [this]
/-- the parts that a term has at its root -/
def pts (t : List Nat) : List (List Nat) := (vl tpF ([], []) t).2
theorem pts_mk {x : Nat} {ps : List (List Nat)} (hx : ar x = ps.length) (hp : ∀ p ∈ ps, wf p) : pts (x :: ps.flatten) = ps := by
  unfold pts
  rw [vl_mk tpF _ hx hp]
  show (ps.map (vl tpF ([], []))).map Prod.fst = ps
  rw [List.map_map]
  conv => rhs; rw [← List.map_id ps]
  apply List.map_congr_left
  intro p hpp
  exact tp_id p.length p (Nat.le_refl _) (hp p hpp)
theorem pts_spec {t : List Nat} (h : wf t) : t = hd t :: (pts t).flatten ∧ ar (hd t) = (pts t).length ∧ ∀ p ∈ pts t, wf p := by
  obtain ⟨x, ps, rfl, hx, hp⟩ := wf_split h
  rw [pts_mk hx hp]
  exact ⟨rfl, hx, hp⟩
theorem pts_lt {t p : List Nat} (h : wf t) (hp : p ∈ pts t) : p.length < t.length := by
  obtain ⟨h1, h2, h3⟩ := pts_spec h
  have := mem_flatten_len hp
  rw [h1]
  simp only [List.length_cons]
  omega
def pt (s : Nat) (t : List Nat) : List (List Nat) := if hd t % 8 = s then pts t else [t]
theorem pt_wf {s : Nat} {t : List Nat} (h : wf t) : ∀ p ∈ pt s t, wf p := by
  unfold pt
  split
  · exact (pts_spec h).2.2
  · intro p hp
    rw [List.mem_singleton.mp hp]
    exact h
/-- into a rising row, once -/
def ins (p : List Nat) (l : List (List Nat)) : List (List Nat) := match l with
  | [] => [p]
  | q :: r => if p < q then p :: q :: r else if p = q then q :: r else q :: ins p r
theorem mem_ins {p q : List Nat} {l : List (List Nat)} : q ∈ ins p l ↔ q = p ∨ q ∈ l := by
  induction l with
  | nil => simp [ins]
  | cons a r ih =>
    unfold ins
    split
    · simp
    · split
      · rename_i h
        subst h
        simp
      · rw [List.mem_cons, ih, List.mem_cons]
        constructor
        · intro h
          rcases h with h | h | h
          · exact Or.inr (Or.inl h)
          · exact Or.inl h
          · exact Or.inr (Or.inr h)
        · intro h
          rcases h with h | h | h
          · exact Or.inr (Or.inl h)
          · exact Or.inl h
          · exact Or.inr (Or.inr h)
def srt (ps : List (List Nat)) : List (List Nat) := ps.foldl (fun l p => ins p l) []
theorem mem_foldl_ins {q : List Nat} (ps l : List (List Nat)) : q ∈ ps.foldl (fun l p => ins p l) l ↔ q ∈ ps ∨ q ∈ l := by
  induction ps generalizing l with
  | nil => simp
  | cons p ps ih =>
    rw [List.foldl_cons, ih, mem_ins, List.mem_cons]
    constructor
    · intro h
      rcases h with h | h | h
      · exact Or.inl (Or.inr h)
      · exact Or.inl (Or.inl h)
      · exact Or.inr h
    · intro h
      rcases h with (h | h) | h
      · exact Or.inr (Or.inl h)
      · exact Or.inl h
      · exact Or.inr (Or.inr h)
theorem mem_srt {q : List Nat} {ps : List (List Nat)} : q ∈ srt ps ↔ q ∈ ps := by
  unfold srt
  rw [mem_foldl_ins]
  simp
def swS (s : Nat) : List Nat := if s = 4 then [6, 0] else [0]
def neS (s : Nat) : List Nat := if s = 4 then [0] else [6, 0]
def mkS (s : Nat) (l : List (List Nat)) : List Nat := match l with
  | [] => neS s
  | [p] => p
  | p :: q :: r => (s + 8 * (p :: q :: r).length) :: (p :: q :: r).flatten
def ltS (s : Nat) (cs : List (List Nat)) : Nat := (cs.map (fun p => hd p / 8)).foldl (fun a b => if s = 4 then a ||| b else a &&& b) (if s = 4 then 0 else 15)
/-- OR (4) or AND (5) of parts -/
def uni (s : Nat) (ps : List (List Nat)) : List Nat :=
  if swS s ∈ ps then swS s
  else if ps.filter (fun p => decide (hd p % 8 = 2)) ≠ [] ∧ ltS s (ps.filter (fun p => decide (hd p % 8 = 2))) = 0 then [0]
  else mkS s (srt (ps.filter (fun p => decide (¬ hd p % 8 = 2 ∧ p ≠ neS s)) ++ (if ps.filter (fun p => decide (hd p % 8 = 2)) = [] then [] else [[2 + 8 * ltS s (ps.filter (fun p => decide (hd p % 8 = 2)))]])))
theorem wf_leaf {x : Nat} (h : ar x = 0) : wf [x] := wf_mk (ps := []) h (fun p hp => by cases hp)
theorem wf_0 : wf [0] := wf_leaf rfl
theorem wf_1 : wf [1] := wf_leaf rfl
theorem wf_60 : wf [6, 0] := by unfold wf; decide
theorem ar_cl (k : Nat) : ar (2 + 8 * k) = 0 := by
  unfold ar
  rw [if_pos (by omega)]
theorem ar_or {s : Nat} (hs : s = 4 ∨ s = 5) (n : Nat) : ar (s + 8 * n) = n := by
  unfold ar
  rcases hs with rfl | rfl
  · rw [if_neg (by omega), if_neg (by omega), if_neg (by omega)]; omega
  · rw [if_neg (by omega), if_neg (by omega), if_neg (by omega)]; omega
theorem wf_swS (s : Nat) : wf (swS s) := by
  unfold swS
  split
  · exact wf_60
  · exact wf_0
theorem wf_neS (s : Nat) : wf (neS s) := by
  unfold neS
  split
  · exact wf_0
  · exact wf_60
theorem wf_mkS {s : Nat} (hs : s = 4 ∨ s = 5) {l : List (List Nat)} (h : ∀ p ∈ l, wf p) : wf (mkS s l) := by
  match l, h with
  | [], _ => exact wf_neS s
  | [p], h => exact h p List.mem_cons_self
  | p :: q :: r, h => exact wf_mk (ar_or hs _) h
theorem wf_uni {s : Nat} (hs : s = 4 ∨ s = 5) {ps : List (List Nat)} (h : ∀ p ∈ ps, wf p) : wf (uni s ps) := by
  unfold uni
  split
  · exact wf_swS s
  · split
    · exact wf_0
    · refine wf_mkS hs (fun p hp => ?_)
      rw [mem_srt, List.mem_append] at hp
      rcases hp with hp | hp
      · exact h p (List.mem_filter.mp hp).1
      · split at hp
        · cases hp
        · rw [List.mem_singleton.mp hp]
          exact wf_leaf (ar_cl _)
def notS (a : List Nat) : List Nat := if hd a = 6 then a.tail else 6 :: a
def starS (a : List Nat) : List Nat := if a = [0] ∨ a = [1] then [1] else if hd a = 7 then a else 7 :: a
def catF (n : Nat) (a b : List Nat) : List Nat := match n with
  | 0 => 3 :: (a ++ b)
  | n + 1 => if hd a = 3 then 3 :: ((pts a).headD [] ++ catF n ((pts a).getLastD []) b) else 3 :: (a ++ b)
def catS (a b : List Nat) : List Nat := if a = [0] ∨ b = [0] then [0] else if a = [1] then b else if b = [1] then a else catF a.length a b
theorem wf_cat2 {a b : List Nat} (ha : wf a) (hb : wf b) : wf (3 :: (a ++ b)) := by
  have := wf_mk (x := 3) (ps := [a, b]) rfl (fun p hp => by
    simp only [List.mem_cons, List.not_mem_nil, or_false] at hp
    rcases hp with rfl | rfl
    · exact ha
    · exact hb)
  simpa using this
theorem wf_un {x : Nat} {a : List Nat} (hx : ar x = 1) (ha : wf a) : wf (x :: a) := by
  have := wf_mk (x := x) (ps := [a]) hx (fun p hp => by rw [List.mem_singleton.mp hp]; exact ha)
  simpa using this
theorem pts_two {a : List Nat} (ha : wf a) (h : hd a = 3) : ∃ p q, pts a = [p, q] ∧ wf p ∧ wf q ∧ a = 3 :: (p ++ q) := by
  obtain ⟨h1, h2, h3⟩ := pts_spec ha
  rw [h] at h1 h2
  have h2 : 2 = (pts a).length := h2
  match hq : pts a, h2 with
  | [p, q], _ =>
    rw [hq] at h1 h3
    exact ⟨p, q, rfl, h3 p (by simp), h3 q (by simp), by simpa using h1⟩
theorem pts_one {a : List Nat} (ha : wf a) (h : ar (hd a) = 1) : ∃ p, pts a = [p] ∧ wf p ∧ a = hd a :: p := by
  obtain ⟨h1, h2, h3⟩ := pts_spec ha
  rw [h] at h2
  match hq : pts a, h2 with
  | [p], _ =>
    rw [hq] at h1 h3
    exact ⟨p, rfl, h3 p (by simp), by simpa using h1⟩
theorem wf_notS {a : List Nat} (ha : wf a) : wf (notS a) := by
  unfold notS
  split
  · rename_i h
    obtain ⟨p, -, h2, h3⟩ := pts_one ha (by rw [h]; rfl)
    rw [h3]
    exact h2
  · exact wf_un rfl ha
theorem wf_starS {a : List Nat} (ha : wf a) : wf (starS a) := by
  unfold starS
  split
  · exact wf_1
  · split
    · exact ha
    · exact wf_un rfl ha
theorem wf_catF {b : List Nat} (hb : wf b) : ∀ (n : Nat) (a : List Nat), wf a → wf (catF n a b) := by
  intro n
  induction n with
  | zero => intro a ha; exact wf_cat2 ha hb
  | succ n ih =>
    intro a ha
    unfold catF
    split
    · rename_i h
      obtain ⟨p, q, h1, h2, h3, -⟩ := pts_two ha h
      rw [h1]
      exact wf_cat2 h2 (ih q h3)
    · exact wf_cat2 ha hb
theorem wf_catS {a b : List Nat} (ha : wf a) (hb : wf b) : wf (catS a b) := by
  unfold catS
  split
  · exact wf_0
  · split
    · exact hb
    · split
      · exact ha
      · exact wf_catF hb _ _ ha
/-- a term's text, its derivative by a letter, whether it has the empty word -/
def dvF (c : Nat) (x : Nat) (ks : List (List Nat × List Nat × Bool)) : List Nat × List Nat × Bool :=
  (x :: (ks.map (fun k => k.1)).flatten,
   (if x % 8 = 2 then (if x / 8 / 2 ^ c % 2 = 1 then [1] else [0])
    else if x % 8 = 3 then (match ks with
      | [a, b] => if a.2.2 = true then uni 4 (pt 4 (catS a.2.1 b.1) ++ pt 4 b.2.1) else catS a.2.1 b.1
      | _ => [0])
    else if x % 8 = 4 ∨ x % 8 = 5 then uni (x % 8) ((ks.map (fun k => pt (x % 8) k.2.1)).flatten)
    else if x % 8 = 6 then (match ks with
      | [a] => notS a.2.1
      | _ => [0])
    else if x % 8 = 7 then (match ks with
      | [a] => catS a.2.1 (x :: a.1)
      | _ => [0])
    else [0]),
   (if x % 8 = 1 ∨ x % 8 = 7 then true
    else if x % 8 = 3 ∨ x % 8 = 5 then ks.all (fun k => k.2.2)
    else if x % 8 = 4 then ks.any (fun k => k.2.2)
    else if x % 8 = 6 then !(ks.any (fun k => k.2.2))
    else false))
def dv (c : Nat) (t : List Nat) : List Nat × List Nat × Bool := vl (dvF c) ([], [], false) t
def DS (c : Nat) (t : List Nat) : List Nat := (dv c t).2.1
def NS (t : List Nat) : Bool := (dv 0 t).2.2
theorem dv_mk {c x : Nat} {ps : List (List Nat)} (hx : ar x = ps.length) (hp : ∀ p ∈ ps, wf p) : dv c (x :: ps.flatten) = dvF c x (ps.map (dv c)) := vl_mk (dvF c) _ hx hp
