/-! STEP 2, the class: a term more in the table -/
def updN {α : Type} (f : Nat → α) (n : Nat) (v : α) : Nat → α := fun i => if i = n then v else f i
theorem updN_eq {α : Type} (f : Nat → α) (n : Nat) (v : α) : updN f n v n = v := if_pos rfl
theorem updN_ne {α : Type} (f : Nat → α) {n i : Nat} (v : α) (h : i ≠ n) : updN f n v i = f i := if_neg h
def gadd (g : TG) (s : Nat) (own : List Nat) : TG := (tU g + 1, updN (tso g) (tU g) s, updN (tkd g) (tU g) own, updN (ttx g) (tU g) (txF s (own.map (ttx g))), updN (tkf g) (tU g) (tKU g), tKU g + own.length, updN (ttg g) (tU g) 0)
/-- one table goes on from another -/
def TE (g g' : TG) : Prop := tU g ≤ tU g' ∧ tKU g ≤ tKU g' ∧ ∀ i, i < tU g → tso g' i = tso g i ∧ tkd g' i = tkd g i ∧ ttx g' i = ttx g i ∧ tkf g' i = tkf g i ∧ ttg g' i = ttg g i
theorem TE.rf {g : TG} : TE g g := ⟨Nat.le_refl _, Nat.le_refl _, fun _ _ => ⟨rfl, rfl, rfl, rfl, rfl⟩⟩
theorem TE.tr {g g1 g2 : TG} (h : TE g g1) (h2 : TE g1 g2) : TE g g2 := ⟨Nat.le_trans h.1 h2.1, Nat.le_trans h.2.1 h2.2.1, fun i hi => by
  obtain ⟨a1, a2, a3, a4, a5⟩ := h.2.2 i hi
  obtain ⟨b1, b2, b3, b4, b5⟩ := h2.2.2 i (Nat.lt_of_lt_of_le hi h.1)
  exact ⟨b1.trans a1, b2.trans a2, b3.trans a3, b4.trans a4, b5.trans a5⟩⟩
theorem TE.tx {g g' : TG} (h : TE g g') {i : Nat} (hi : i < tU g) : ttx g' i = ttx g i := (h.2.2 i hi).2.2.1
theorem TE.so {g g' : TG} (h : TE g g') {i : Nat} (hi : i < tU g) : tso g' i = tso g i := (h.2.2 i hi).1
theorem TE.add (g : TG) (s : Nat) (own : List Nat) : TE g (gadd g s own) := ⟨Nat.le_succ _, Nat.le_add_right _ _, fun i hi => ⟨updN_ne _ _ (by omega), updN_ne _ _ (by omega), updN_ne _ _ (by omega), updN_ne _ _ (by omega), updN_ne _ _ (by omega)⟩⟩
theorem TE.map {g g' : TG} (h : TE g g') {own : List Nat} (ho : ∀ k ∈ own, k < tU g) : own.map (ttx g') = own.map (ttx g) := List.map_congr_left (fun k hk => h.tx (ho k hk))
theorem TE.shp {g g' : TG} (h : TE g g') {s : Nat} {own : List Nat} (ho : ∀ k ∈ own, k < tU g) (hs : shp g s own) : shp g' s own := by
  rcases hs with ⟨h1, a, b, h2, h3⟩ | h1 | ⟨h1, a, h2, h3, h4⟩ | ⟨h1, a, h2, h3⟩
  · refine Or.inl ⟨h1, a, b, h2, ?_⟩
    rw [h.so (ho a (by rw [h2]; simp))]
    exact h3
  · exact Or.inr (Or.inl h1)
  · refine Or.inr (Or.inr (Or.inl ⟨h1, a, h2, h3, ?_⟩))
    rw [h.so (ho a (by rw [h2]; simp))]
    exact h4
  · refine Or.inr (Or.inr (Or.inr ⟨h1, a, h2, ?_⟩))
    rw [h.so (ho a (by rw [h2]; simp))]
    exact h3
theorem shp.ar {g : TG} {s : Nat} {own : List Nat} (h : shp g s own) (hn : ¬ (s = 4 ∨ s = 5)) : ar s = own.length := by
  rcases h with ⟨h1, a, b, h2, -⟩ | h1 | ⟨h1, a, h2, -⟩ | ⟨h1, a, h2, -⟩
  · rw [h1, h2]; rfl
  · exact absurd h1.1 hn
  · rw [h1, h2]; rfl
  · rw [h1, h2]; rfl
theorem pts_txF {g : TG} (h : TB g) {s : Nat} {own : List Nat} (hs : shp g s own) (ho : ∀ k ∈ own, k < tU g) : pts (txF s (own.map (ttx g))) = if s = 4 ∨ s = 5 then srt (own.map (ttx g)) else own.map (ttx g) := by
  have hw : ∀ p ∈ own.map (ttx g), wf p := fun p hp => by
    obtain ⟨k, hk, rfl⟩ := List.mem_map.mp hp
    exact h.wf (ho k hk)
  unfold txF
  by_cases hc : s = 4 ∨ s = 5
  · rw [if_pos hc, if_pos hc]
    have hsr : SrN own := by
      rcases hs with q | q | q | q
      · omega
      · exact q.2.2
      · omega
      · omega
    exact pts_mk (by rw [ar_or hc, srt_len_nodup (h.mapnd ho hsr)]) (fun p hp => hw p (mem_srt.mp hp))
  · rw [if_neg hc, if_neg hc]
    exact pts_mk (by rw [hs.ar hc, List.length_map]) hw
theorem wf_txF {g : TG} (h : TB g) {s : Nat} {own : List Nat} (hs : shp g s own) (ho : ∀ k ∈ own, k < tU g) : wf (txF s (own.map (ttx g))) ∧ pr (txF s (own.map (ttx g))) := by
  have hw : ∀ p ∈ own.map (ttx g), wf p := fun p hp => by
    obtain ⟨k, hk, rfl⟩ := List.mem_map.mp hp
    exact h.wf (ho k hk)
  have hp : ∀ p ∈ own.map (ttx g), pr p := fun p hp => by
    obtain ⟨k, hk, rfl⟩ := List.mem_map.mp hp
    exact h.pr (ho k hk)
  unfold txF
  by_cases hc : s = 4 ∨ s = 5
  · rw [if_pos hc]
    obtain ⟨h2, hsr⟩ : 2 ≤ own.length ∧ SrN own := by
      rcases hs with q | q | q | q
      · omega
      · exact q.2
      · omega
      · omega
    refine ⟨wf_mk (by rw [ar_or hc, srt_len_nodup (h.mapnd ho hsr)]) (fun p hp2 => hw p (mem_srt.mp hp2)), pr_cons ?_ (pr_flat (fun p hp2 => hp p (mem_srt.mp hp2)))⟩
    right; left
    rw [List.length_map]
    omega
  · rw [if_neg hc]
    refine ⟨wf_mk (by rw [hs.ar hc, List.length_map]) hw, pr_cons ?_ (pr_flat hp)⟩
    have := hs.lt
    right; right
    omega
theorem map_tx_inj {g : TG} (h : TB g) : ∀ (a b : List Nat), (∀ k ∈ a, k < tU g) → (∀ k ∈ b, k < tU g) → a.map (ttx g) = b.map (ttx g) → a = b := by
  intro a
  induction a with
  | nil =>
    intro b _ _ e
    cases b with
    | nil => rfl
    | cons y b => simp at e
  | cons x a ih =>
    intro b ha hb e
    cases b with
    | nil => simp at e
    | cons y b =>
      simp only [List.map_cons, List.cons.injEq] at e
      rw [h.inj (ha x List.mem_cons_self) (hb y List.mem_cons_self) e.1, ih b (fun k hk => ha k (List.mem_cons_of_mem _ hk)) (fun k hk => hb k (List.mem_cons_of_mem _ hk)) e.2]
/-- what a term is, is told by its text -/
theorem TB.txo {g : TG} (h : TB g) {s i : Nat} {own : List Nat} (hs : shp g s own) (ho : ∀ k ∈ own, k < tU g) (hi : i < tU g) (e : ttx g i = txF s (own.map (ttx g))) : 18 ≤ i ∧ tso g i = s ∧ tkd g i = own := by
  have hsi : tso g i = s := by
    rw [← h.so hi, e]
    exact hd_txF hs.lt.2 _
  have hlt := hs.lt
  have h18 : 18 ≤ i := by
    refine Classical.byContradiction (fun hq => ?_)
    by_cases h17 : i = 17
    · subst h17
      rw [h.2.2.2.1.1] at hsi
      rcases hs with q | q | ⟨-, a, q2, q3, -⟩ | q
      · omega
      · omega
      · rw [h.t17, q2, ← hsi] at e
        have e : [6, 0] = 6 :: ([ttx g a] : List (List Nat)).flatten := e
        simp only [List.flatten_cons, List.flatten_nil, List.append_nil, List.cons.injEq, true_and] at e
        rw [← h.t0] at e
        exact q3 (h.inj (ho a (by rw [q2]; simp)) (by have := h.1; omega) e.symm)
      · omega
    · by_cases h16 : i = 16
      · subst h16
        rw [h.2.2.1.1] at hsi
        omega
      · rw [(h.2.1 i (by omega)).1] at hsi
        split at hsi <;> omega
  obtain ⟨a1, a2, a3⟩ := h.2.2.2.2.1 i h18 hi
  refine ⟨h18, hsi, ?_⟩
  rw [hsi] at a1 a3
  have hk : ∀ k ∈ tkd g i, k < tU g := fun k hk => Nat.lt_trans (a2 k hk) hi
  have e2 : pts (txF s ((tkd g i).map (ttx g))) = pts (txF s (own.map (ttx g))) := by rw [← a3, e]
  rw [pts_txF h a1 hk, pts_txF h hs ho] at e2
  by_cases hc : s = 4 ∨ s = 5
  · rw [if_pos hc, if_pos hc] at e2
    have s1 : SrN (tkd g i) := by
      rcases a1 with q | q | q | q
      · omega
      · exact q.2.2
      · omega
      · omega
    have s2 : SrN own := by
      rcases hs with q | q | q | q
      · omega
      · exact q.2.2
      · omega
      · omega
    have hmem : ∀ t, t ∈ (tkd g i).map (ttx g) ↔ t ∈ own.map (ttx g) := fun t => by rw [← mem_srt, e2, mem_srt]
    refine SrN.ext _ _ s1 s2 (fun k => ⟨fun hk2 => ?_, fun hk2 => ?_⟩)
    · obtain ⟨k', q1, q2⟩ := List.mem_map.mp ((hmem _).mp (List.mem_map.mpr ⟨k, hk2, rfl⟩))
      rw [← h.inj (ho k' q1) (hk k hk2) q2]
      exact q1
    · obtain ⟨k', q1, q2⟩ := List.mem_map.mp ((hmem _).mpr (List.mem_map.mpr ⟨k, hk2, rfl⟩))
      rw [← h.inj (hk k' q1) (ho k hk2) q2]
      exact q1
  · rw [if_neg hc, if_neg hc] at e2
    exact map_tx_inj h _ _ hk ho e2
theorem TB.add {g : TG} (h : TB g) {s : Nat} {own : List Nat} (hs : shp g s own) (ho : ∀ k ∈ own, k < tU g) (hl : (txF s (own.map (ttx g))).length ≤ 1000000) (hn : ∀ i, 18 ≤ i → i < tU g → ¬ (tso g i = s ∧ tkd g i = own)) : TB (gadd g s own) := by
  have hE := TE.add g s own
  obtain ⟨w1, w2⟩ := wf_txF h hs ho
  have hU : tU (gadd g s own) = tU g + 1 := rfl
  have hnew : ttx (gadd g s own) (tU g) = txF s (own.map (ttx g)) := updN_eq _ _ _
  have hU18 := h.1
  refine ⟨by rw [hU]; omega, fun i hi => ?_, ?_, ?_, fun i h18 hi => ?_, fun i hi => ?_, fun i j hi hj e => ?_, fun i hi => ?_, fun i h17 hi => ?_, fun i j h17 hij hj => ?_⟩
  · obtain ⟨e1, e2, e3, -⟩ := hE.2.2 i (by omega)
    rw [e1, e2, e3]
    exact h.2.1 i hi
  · obtain ⟨e1, e2, e3, -⟩ := hE.2.2 16 (by omega)
    rw [e1, e2, e3]
    exact h.2.2.1
  · obtain ⟨e1, e2, e3, -⟩ := hE.2.2 17 (by omega)
    rw [e1, e2, e3]
    exact h.2.2.2.1
  · rw [hU] at hi
    by_cases hiU : i = tU g
    · subst hiU
      have e1 : tso (gadd g s own) (tU g) = s := updN_eq _ _ _
      have e2 : tkd (gadd g s own) (tU g) = own := updN_eq _ _ _
      rw [e1, e2, hnew, hE.map ho]
      exact ⟨hE.shp ho hs, ho, rfl⟩
    · have hi2 : i < tU g := by omega
      obtain ⟨e1, e2, e3, -⟩ := hE.2.2 i hi2
      obtain ⟨a1, a2, a3⟩ := h.2.2.2.2.1 i h18 hi2
      have hk : ∀ k ∈ tkd g i, k < tU g := fun k hk => Nat.lt_trans (a2 k hk) hi2
      rw [e1, e2, e3, hE.map hk]
      exact ⟨hE.shp hk a1, a2, a3⟩
  · rw [hU] at hi
    by_cases hiU : i = tU g
    · rw [hiU, hnew]
      exact ⟨w1, w2, hl⟩
    · rw [hE.tx (by omega)]
      exact h.2.2.2.2.2.1 i (by omega)
  · rw [hU] at hi hj
    by_cases hiU : i = tU g
    · by_cases hjU : j = tU g
      · omega
      · rw [hiU, hnew, hE.tx (by omega)] at e
        obtain ⟨q1, q2, q3⟩ := h.txo hs ho (by omega) e.symm
        exact absurd ⟨q2, q3⟩ (hn j q1 (by omega))
    · by_cases hjU : j = tU g
      · rw [hjU, hnew, hE.tx (by omega)] at e
        obtain ⟨q1, q2, q3⟩ := h.txo hs ho (by omega) e
        exact absurd ⟨q2, q3⟩ (hn i q1 (by omega))
      · rw [hE.tx (by omega), hE.tx (by omega)] at e
        exact h.inj (by omega) (by omega) e
  · rw [(hE.2.2 i (by omega)).2.2.2.1]
    exact h.2.2.2.2.2.2.2.1 i hi
  · rw [hU] at hi
    have e5 : tKU (gadd g s own) = tKU g + own.length := rfl
    rw [e5]
    by_cases hiU : i = tU g
    · subst hiU
      have e2 : tkd (gadd g s own) (tU g) = own := updN_eq _ _ _
      have e4 : tkf (gadd g s own) (tU g) = tKU g := updN_eq _ _ _
      rw [e2, e4]
      exact Nat.le_refl _
    · obtain ⟨-, e2, -, e4, -⟩ := hE.2.2 i (by omega)
      have := h.2.2.2.2.2.2.2.2.1 i h17 (by omega)
      rw [e2, e4]
      omega
  · rw [hU] at hj
    obtain ⟨-, e2, -, e4, -⟩ := hE.2.2 i (by omega)
    rw [e2, e4]
    by_cases hjU : j = tU g
    · subst hjU
      have e4' : tkf (gadd g s own) (tU g) = tKU g := updN_eq _ _ _
      rw [e4']
      exact h.2.2.2.2.2.2.2.2.1 i h17 (by omega)
    · rw [(hE.2.2 j (by omega)).2.2.2.1]
      exact h.2.2.2.2.2.2.2.2.2 i j h17 hij (by omega)
