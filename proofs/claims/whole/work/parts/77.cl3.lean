/-! STEP 2, the class: the table of terms -/
def txF (s : Nat) (ts : List (List Nat)) : List Nat := if s = 4 ∨ s = 5 then (s + 8 * ts.length) :: (srt ts).flatten else s :: ts.flatten
/-- what the table holds: how many terms, their sorts, kids, texts, where their kids lie, how many kids -/
abbrev TG : Type := Nat × (Nat → Nat) × (Nat → List Nat) × (Nat → List Nat) × (Nat → Nat) × Nat × (Nat → Nat)
def tU (g : TG) : Nat := g.1
def tso (g : TG) : Nat → Nat := g.2.1
def tkd (g : TG) : Nat → List Nat := g.2.2.1
def ttx (g : TG) : Nat → List Nat := g.2.2.2.1
def tkf (g : TG) : Nat → Nat := g.2.2.2.2.1
def tKU (g : TG) : Nat := g.2.2.2.2.2.1
/-- the tag that a term has -/
def ttg (g : TG) : Nat → Nat := g.2.2.2.2.2.2
/-- kids lie in the order of the terms -/
def TK (g : TG) : Prop := (∀ i, i < 18 → tkf g i = 0) ∧ (∀ i, 17 ≤ i → i < tU g → tkf g i + (tkd g i).length ≤ tKU g) ∧ ∀ i j, 17 ≤ i → i < j → j < tU g → tkf g i + (tkd g i).length ≤ tkf g j
/-- the shape that a made term has -/
def shp (g : TG) (s : Nat) (own : List Nat) : Prop := (s = 3 ∧ (∃ a b, own = [a, b] ∧ tso g a ≠ 3)) ∨ ((s = 4 ∨ s = 5) ∧ 2 ≤ own.length ∧ SrN own) ∨ (s = 6 ∧ ∃ a, own = [a] ∧ a ≠ 0 ∧ tso g a ≠ 6) ∨ (s = 7 ∧ ∃ a, own = [a] ∧ tso g a ≠ 7)
def TB (g : TG) : Prop := 18 ≤ tU g ∧
  (∀ i, i < 16 → tso g i = (if i = 0 then 0 else 2) ∧ tkd g i = [] ∧ ttx g i = ltT i) ∧ (tso g 16 = 1 ∧ tkd g 16 = [] ∧ ttx g 16 = [1]) ∧ (tso g 17 = 6 ∧ tkd g 17 = [0] ∧ ttx g 17 = [6, 0]) ∧
  (∀ i, 18 ≤ i → i < tU g → shp g (tso g i) (tkd g i) ∧ (∀ k ∈ tkd g i, k < i) ∧ ttx g i = txF (tso g i) ((tkd g i).map (ttx g))) ∧
  (∀ i, i < tU g → wf (ttx g i) ∧ pr (ttx g i) ∧ (ttx g i).length ≤ 1000000) ∧
  (∀ i j, i < tU g → j < tU g → ttx g i = ttx g j → i = j) ∧ TK g
theorem TB.wf {g : TG} (h : TB g) {i : Nat} (hi : i < tU g) : wf (ttx g i) := (h.2.2.2.2.2.1 i hi).1
theorem TB.pr {g : TG} (h : TB g) {i : Nat} (hi : i < tU g) : pr (ttx g i) := (h.2.2.2.2.2.1 i hi).2.1
theorem TB.sz {g : TG} (h : TB g) {i : Nat} (hi : i < tU g) : (ttx g i).length ≤ 1000000 := (h.2.2.2.2.2.1 i hi).2.2
theorem TB.inj {g : TG} (h : TB g) {i j : Nat} (hi : i < tU g) (hj : j < tU g) (e : ttx g i = ttx g j) : i = j := h.2.2.2.2.2.2.1 i j hi hj e
theorem TB.t0 {g : TG} (h : TB g) : ttx g 0 = [0] := (h.2.1 0 (by omega)).2.2
theorem TB.t16 {g : TG} (h : TB g) : ttx g 16 = [1] := h.2.2.1.2.2
theorem TB.t17 {g : TG} (h : TB g) : ttx g 17 = [6, 0] := h.2.2.2.1.2.2
theorem srt_len_nodup {ts : List (List Nat)} (hn : ts.Nodup) : (srt ts).length = ts.length := by
  refine Nat.le_antisymm (srt_cnt ts) (nodup_leG ts (srt ts) hn (fun x hx => mem_srt.mpr hx))
/-- the kids are there, each once, and less -/
theorem TB.kids {g : TG} (h : TB g) {i : Nat} (hi : i < tU g) : ∀ k ∈ tkd g i, k < i := by
  intro k hk
  by_cases h18 : 18 ≤ i
  · exact (h.2.2.2.2.1 i h18 hi).2.1 k hk
  · by_cases h17 : i = 17
    · subst h17
      rw [h.2.2.2.1.2.1] at hk
      rw [List.mem_singleton.mp hk]
      omega
    · by_cases h16 : i = 16
      · subst h16
        rw [h.2.2.1.2.1] at hk
        cases hk
      · rw [(h.2.1 i (by omega)).2.1] at hk
        cases hk
theorem TB.mapnd {g : TG} (h : TB g) {own : List Nat} (ho : ∀ k ∈ own, k < tU g) (hs : SrN own) : (own.map (ttx g)).Nodup := by
  refine List.pairwise_map.mpr (List.Pairwise.imp_of_mem (fun {x y} hx hy hlt he => ?_) hs)
  have := h.inj (ho x hx) (ho y hy) he
  omega
theorem hd_txF {s : Nat} (hs : s < 8) (ts : List (List Nat)) : hd (txF s ts) % 8 = s := by
  unfold txF
  split
  · show (s + 8 * ts.length) % 8 = s
    omega
  · show s % 8 = s
    omega
theorem shp.lt {g : TG} {s : Nat} {own : List Nat} (h : shp g s own) : 3 ≤ s ∧ s < 8 := by
  rcases h with h | h | h | h <;> omega
theorem TB.so {g : TG} (h : TB g) {i : Nat} (hi : i < tU g) : hd (ttx g i) % 8 = tso g i := by
  by_cases h18 : 18 ≤ i
  · obtain ⟨h1, h2, h3⟩ := h.2.2.2.2.1 i h18 hi
    rw [h3]
    exact hd_txF h1.lt.2 _
  · by_cases h17 : i = 17
    · subst h17
      rw [h.t17, h.2.2.2.1.1]
      rfl
    · by_cases h16 : i = 16
      · subst h16
        rw [h.t16, h.2.2.1.1]
        rfl
      · obtain ⟨a1, a2, a3⟩ := h.2.1 i (by omega)
        rw [a1, a3]
        unfold ltT
        by_cases h0 : i = 0
        · rw [if_pos h0, if_pos h0]; rfl
        · rw [if_neg h0, if_neg (by omega), if_neg h0]
          show (2 + 8 * i) % 8 = 2
          omega
/-- the text of a term, out of its sort and its kids: for all terms that have kids -/
theorem TB.eq {g : TG} (h : TB g) {i : Nat} (hi : i < tU g) (hs : 3 ≤ tso g i) : ttx g i = txF (tso g i) ((tkd g i).map (ttx g)) := by
  by_cases h18 : 18 ≤ i
  · exact (h.2.2.2.2.1 i h18 hi).2.2
  · by_cases h17 : i = 17
    · subst h17
      rw [h.2.2.2.1.1, h.2.2.2.1.2.1, h.t17, List.map_cons, List.map_nil, h.t0]
      rfl
    · by_cases h16 : i = 16
      · subst h16
        rw [h.2.2.1.1] at hs
        omega
      · obtain ⟨a1, a2, a3⟩ := h.2.1 i (by omega)
        rw [a1] at hs
        split at hs <;> omega
/-- what OR or AND takes of a term: its kids' texts, or itself -/
def kdP (g : TG) (s i : Nat) : List Nat := if tso g i = s then tkd g i else [i]
theorem srt_perm_of {ts : List (List Nat)} (hn : ts.Nodup) : (srt ts).Perm ts := by
  have hs : (srt ts).Nodup := by
    have h0 : (srt ts).Pairwise (fun a b => a < b) := srt_Srt ts
    refine List.Pairwise.imp (fun {a b} hab e => ?_) h0
    rw [e] at hab
    exact l_irr _ hab
  exact (List.perm_ext_iff_of_nodup hs hn).mpr (fun a => mem_srt)
theorem TB.ptP {g : TG} (h : TB g) {s i : Nat} (hs : s = 4 ∨ s = 5) (hi : i < tU g) : ((kdP g s i).map (ttx g)).Perm (pt s (ttx g i)) := by
  unfold kdP pt
  rw [h.so hi]
  by_cases hc : tso g i = s
  · rw [if_pos hc, if_pos hc]
    have h18 : 18 ≤ i := by
      refine Classical.byContradiction (fun hq => ?_)
      by_cases h17 : i = 17
      · subst h17; rw [h.2.2.2.1.1] at hc; omega
      · by_cases h16 : i = 16
        · subst h16; rw [h.2.2.1.1] at hc; omega
        · rw [(h.2.1 i (by omega)).1] at hc
          split at hc <;> omega
    obtain ⟨h1, h2, h3⟩ := h.2.2.2.2.1 i h18 hi
    rw [hc] at h1 h3
    have hsr : SrN (tkd g i) := by
      rcases h1 with q | q | q | q
      · omega
      · exact q.2.2
      · omega
      · omega
    have hnd := h.mapnd (fun k hk => Nat.lt_trans (h2 k hk) hi) hsr
    have hp := srt_perm_of hnd
    have e : ttx g i = (s + 8 * ((tkd g i).map (ttx g)).length) :: (srt ((tkd g i).map (ttx g))).flatten := by
      rw [h3]
      unfold txF
      rw [if_pos hs]
    rw [e, pts_mk (by rw [ar_or hs, srt_len_nodup hnd]) (fun p hp2 => by
      obtain ⟨k, hk, rfl⟩ := List.mem_map.mp (mem_srt.mp hp2)
      exact h.wf (Nat.lt_trans (h2 k hk) hi))]
    exact hp.symm
  · rw [if_neg hc, if_neg hc]
    exact List.Perm.refl _
