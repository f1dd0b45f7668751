/-! STEP 2, the class: one more term is put down -/
def sumL (g : TG) (l : List Nat) : Nat := (l.map (fun k => (ttx g k).length)).sum
def cntN (g : TG) (l : List Nat) : Nat := (l.map (fun k => if NS (ttx g k) = true then 1 else 0)).sum
theorem sumL_snoc (g : TG) (l : List Nat) (x : Nat) : sumL g (l ++ [x]) = sumL g l + (ttx g x).length := by
  unfold sumL
  rw [List.map_append, List.sum_append]
  simp
theorem cntN_snoc (g : TG) (l : List Nat) (x : Nat) : cntN g (l ++ [x]) = cntN g l + (if NS (ttx g x) = true then 1 else 0) := by
  unfold cntN
  rw [List.map_append, List.sum_append]
  simp
theorem flat_sum (ts : List (List Nat)) : ts.flatten.length = (ts.map List.length).sum := by
  induction ts with
  | nil => rfl
  | cons p ts ih => rw [List.flatten_cons, List.length_append, ih, List.map_cons, List.sum_cons]
theorem txF_len {g : TG} (h : TB g) {s : Nat} {own : List Nat} (hs : shp g s own) (ho : ∀ k ∈ own, k < tU g) : (txF s (own.map (ttx g))).length = 1 + sumL g own := by
  have e : (own.map (ttx g)).flatten.length = sumL g own := by
    rw [flat_sum, List.map_map]
    rfl
  unfold txF
  by_cases hc : s = 4 ∨ s = 5
  · have hsr : SrN own := by
      rcases hs with q | q | q | q
      · omega
      · exact q.2.2
      · omega
      · omega
    rw [if_pos hc, List.length_cons, ← e, (srt_perm_of (h.mapnd ho hsr)).flatten.length_eq, Nat.add_comm]
  · rw [if_neg hc, List.length_cons, e, Nat.add_comm]
theorem cntN_le (g : TG) (l : List Nat) : cntN g l ≤ l.length := by
  induction l with
  | nil => exact Nat.le_refl _
  | cons x l ih =>
    unfold cntN at *
    rw [List.map_cons, List.sum_cons, List.length_cons]
    split <;> omega
theorem cntN_0 (g : TG) (l : List Nat) : cntN g l = 0 ↔ l.any (fun k => NS (ttx g k)) = false := by
  induction l with
  | nil => simp [cntN]
  | cons x l ih =>
    unfold cntN at *
    rw [List.map_cons, List.sum_cons, List.any_cons]
    cases hx : NS (ttx g x) with
    | true => simp
    | false => simpa using ih
theorem cntN_all (g : TG) (l : List Nat) : cntN g l = l.length ↔ l.all (fun k => NS (ttx g k)) = true := by
  induction l with
  | nil => simp [cntN]
  | cons x l ih =>
    have hle := cntN_le g l
    unfold cntN at *
    rw [List.map_cons, List.sum_cons, List.all_cons, List.length_cons]
    cases hx : NS (ttx g x) with
    | true =>
      simp only [if_true, Bool.true_and]
      rw [← ih]
      omega
    | false =>
      simp
      omega
/-- whether a term has the empty word, out of its kids -/
def nwB (s n m : Nat) : Bool := if s = 4 then decide (0 < n) else if s = 5 then decide (n = m) else if s = 6 then decide (n = 0) else if s = 7 then true else decide (n = m)
theorem nw_txF {g : TG} (h : TB g) {s : Nat} {own : List Nat} (hs : shp g s own) (ho : ∀ k ∈ own, k < tU g) : NS (txF s (own.map (ttx g))) = nwB s (cntN g own) own.length := by
  have hw : ∀ p ∈ own.map (ttx g), wf p := fun p hp => by
    obtain ⟨k, hk, rfl⟩ := List.mem_map.mp hp
    exact h.wf (ho k hk)
  have h0 := cntN_0 g own
  have ha := cntN_all g own
  have hlt := hs.lt
  unfold txF nwB
  by_cases hc : s = 4 ∨ s = 5
  · have hsr : SrN own := by
      rcases hs with q | q | q | q
      · omega
      · exact q.2.2
      · omega
      · omega
    rw [if_pos hc, NS_mk (by rw [ar_or hc, srt_len_nodup (h.mapnd ho hsr)]) (fun p hp => hw p (mem_srt.mp hp))]
    have hp := srt_perm_of (h.mapnd ho hsr)
    have hany : (srt (own.map (ttx g))).any NS = own.any (fun k => NS (ttx g k)) := by
      rw [hp.any_eq, List.any_map]
      rfl
    have hall : (srt (own.map (ttx g))).all NS = own.all (fun k => NS (ttx g k)) := by
      rw [hp.all_eq, List.all_map]
      rfl
    rcases hc with rfl | rfl
    · rw [if_neg (by omega), if_neg (by omega), if_pos (by omega), if_pos rfl, hany]
      cases hq : own.any (fun k => NS (ttx g k)) with
      | true =>
        have : ¬ cntN g own = 0 := fun q => by rw [h0.mp q] at hq; cases hq
        rw [decide_eq_true (by omega)]
      | false =>
        have := h0.mpr hq
        rw [decide_eq_false (by omega)]
    · rw [if_neg (by omega), if_pos (by omega), if_neg (by omega), if_pos rfl, hall]
      cases hq : own.all (fun k => NS (ttx g k)) with
      | true => rw [decide_eq_true (ha.mpr hq)]
      | false => rw [decide_eq_false (fun q => by rw [ha.mp q] at hq; cases hq)]
  · rw [if_neg hc, NS_mk (by rw [hs.ar hc, List.length_map]) hw, List.all_map, List.any_map]
    have e1 : (NS ∘ ttx g) = fun k => NS (ttx g k) := rfl
    rw [e1]
    rcases (show s = 3 ∨ s = 6 ∨ s = 7 by omega) with rfl | rfl | rfl
    · show own.all (fun k => NS (ttx g k)) = decide (cntN g own = own.length)
      cases hq : own.all (fun k => NS (ttx g k)) with
      | true => rw [decide_eq_true (ha.mpr hq)]
      | false => rw [decide_eq_false (fun q => by rw [ha.mp q] at hq; cases hq)]
    · show (!(own.any (fun k => NS (ttx g k)))) = decide (cntN g own = 0)
      cases hq : own.any (fun k => NS (ttx g k)) with
      | true => rw [decide_eq_false (fun q => by rw [h0.mp q] at hq; cases hq)]; rfl
      | false => rw [decide_eq_true (h0.mpr hq)]; rfl
    · rfl
theorem c_nullW {M : MS} {s n m : Nat} (hs : s < 8) (hn : n < 1000000000) (hm : m < 1000000000) : m_Terms_isNullableWith (Int32.ofNat s) (Int32.ofNat n) (Int32.ofNat m) M = some (M, b01 (nwB s n m)) := by
  have e : ∀ c : Nat, c < 8 → (Int32.ofNat s = Int32.ofNat c ↔ s = c) := fun c hc => i_eq_of (by omega) (by omega)
  unfold m_Terms_isNullableWith nwB
  rw [show (4 : Int32) = Int32.ofNat 4 from rfl, show (5 : Int32) = Int32.ofNat 5 from rfl, show (6 : Int32) = Int32.ofNat 6 from rfl, show (7 : Int32) = Int32.ofNat 7 from rfl]
  have fin : ∀ b : Bool, (if ¬ b = true then some (M, (0 : Int32)) else some (M, 1)) = some (M, b01 b) := fun b => by cases b <;> rfl
  by_cases h4 : s = 4
  · rw [if_pos ((e 4 (by omega)).mpr h4), if_pos h4]
    by_cases hp : 0 < n
    · rw [if_neg (by rw [i_le, i_of (by omega), i_0]; omega), decide_eq_true hp]; rfl
    · rw [if_pos (by rw [i_le, i_of (by omega), i_0]; omega), decide_eq_false hp]; rfl
  · rw [if_neg (fun q => h4 ((e 4 (by omega)).mp q)), if_neg h4]
    have eqn : (if ¬ Int32.ofNat n = Int32.ofNat m then some (M, (0 : Int32)) else some (M, 1)) = some (M, b01 (decide (n = m))) := by
      by_cases hq : n = m
      · rw [if_neg (by rw [hq]; simp), decide_eq_true hq]; rfl
      · rw [if_pos (by rw [i_eq_of (by omega) (by omega)]; exact hq), decide_eq_false hq]; rfl
    by_cases h5 : s = 5
    · rw [if_pos ((e 5 (by omega)).mpr h5), if_pos h5]
      exact eqn
    · rw [if_neg (fun q => h5 ((e 5 (by omega)).mp q)), if_neg h5]
      by_cases h6 : s = 6
      · rw [if_pos ((e 6 (by omega)).mpr h6), if_pos h6]
        by_cases hq : n = 0
        · rw [if_neg (by rw [hq]; decide), decide_eq_true hq]; rfl
        · rw [if_pos (by rw [i_eq, i_of (by omega), i_0]; omega), decide_eq_false hq]; rfl
      · rw [if_neg (fun q => h6 ((e 6 (by omega)).mp q)), if_neg h6]
        by_cases h7 : s = 7
        · rw [if_pos ((e 7 (by omega)).mpr h7), if_pos h7]; rfl
        · rw [if_neg (fun q => h7 ((e 7 (by omega)).mp q)), if_neg h7]
          exact eqn
theorem sumL_le {g : TG} (h : TB g) : ∀ (l : List Nat), (∀ k ∈ l, k < tU g) → sumL g l ≤ 1000000 * l.length := by
  intro l
  induction l with
  | nil => intro _; exact Nat.le_refl _
  | cons x l ih =>
    intro hl
    have h1 := ih (fun k hk => hl k (List.mem_cons_of_mem _ hk))
    have h2 := h.sz (hl x List.mem_cons_self)
    unfold sumL at *
    rw [List.map_cons, List.sum_cons, List.length_cons]
    omega
/-- the kids are put down, their sizes and empty words counted -/
theorem c_add55 {g : TG} {M0 : MS} {s o it U KU : Nat} {code : Int32} {own : List Nat} (hB : TB g) (hR : isR o it) (hW : RW M0 o it own) (ho : ∀ k ∈ own, k < tU g) (h13 : KU + own.length ≤ gL M0 13) (hk13 : gL M0 13 ≤ 2000000) (h4 : tU g ≤ gL M0 4) (h5 : tU g ≤ gL M0 5) (hU : tU g ≤ 131072) (hsz : 1 + sumL g own ≤ 1000000) (hr4 : ∀ i, i < tU g → gA M0 4 i = Int32.ofNat (ttx g i).length) (hr5 : ∀ i, i < tU g → gA M0 5 i = b01 (NS (ttx g i))) :
    ∀ (v u : List Nat) (M : MS) (F : Nat), own = u ++ v → gI M 2 17 = Int32.ofNat (KU + u.length) → (∀ j, j < u.length → gA M 13 (KU + j) = Int32.ofNat (own.getD j 0)) → (∀ p, p < KU → gA M 13 p = gA M0 13 p) → Fr [13] [(2, 17)] M0 M → v.length < F →
    ∃ M1, fx (fun (k : Int32 × Nat × Int32 × Int32 × Int32 × Int32 × Int32 × MS → Option (MS × Int32)) (i : Int32 × Nat × Int32 × Int32 × Int32 × Int32 × Int32 × MS) => m_Terms_addNode_55b k i.1 i.2.1 i.2.2.1 i.2.2.2.1 i.2.2.2.2.1 i.2.2.2.2.2.1 i.2.2.2.2.2.2.1 i.2.2.2.2.2.2.2) F (Int32.ofNat s, o, code, Int32.ofNat U, Int32.ofNat (1 + sumL g u), Int32.ofNat (cntN g u), Int32.ofNat u.length, M) = m_Terms_addNode_123 (Int32.ofNat s) o code (Int32.ofNat U) (Int32.ofNat (1 + sumL g own)) (Int32.ofNat (cntN g own)) M1 ∧ gI M1 2 17 = Int32.ofNat (KU + own.length) ∧ (∀ j, j < own.length → gA M1 13 (KU + j) = Int32.ofNat (own.getD j 0)) ∧ (∀ p, p < KU → gA M1 13 p = gA M0 13 p) ∧ Fr [13] [(2, 17)] M0 M1 := by
  have it13 : it ∉ [13] := by rcases hR with ⟨rfl, rfl⟩ | ⟨rfl, rfl⟩ | ⟨rfl, rfl⟩ | ⟨rfl, rfl⟩ | ⟨rfl, rfl⟩ <;> decide
  have o17 : (o, 1) ∉ [(2, 17)] := by rcases hR with ⟨rfl, rfl⟩ | ⟨rfl, rfl⟩ | ⟨rfl, rfl⟩ | ⟨rfl, rfl⟩ | ⟨rfl, rfl⟩ <;> decide
  intro v
  induction v with
  | nil =>
    intro u M F e h1 h2 h3 hf hF
    rw [List.append_nil] at e
    subst e
    have hWM := hW.fc (FC.of hf) it13 o17
    cases F with
    | zero => simp at hF
    | succ F =>
      refine ⟨M, ?_, h1, h2, h3, hf⟩
      show m_Terms_addNode_55b _ (Int32.ofNat s) o code (Int32.ofNat U) (Int32.ofNat (1 + sumL g own)) (Int32.ofNat (cntN g own)) (Int32.ofNat own.length) M = _
      unfold m_Terms_addNode_55b
      rw [c_size hR hWM, cal_same, if_pos (Int32.le_refl _)]
  | cons x v ih =>
    intro u M F e h1 h2 h3 hf hF
    rw [List.length_cons] at hF
    have hWM := hW.fc (FC.of hf) it13 o17
    have hol : own.length = u.length + (v.length + 1) := by rw [e, List.length_append, List.length_cons]
    have gx : own.getD u.length 0 = x := by rw [e]; simp
    have hxU : x < tU g := ho x (by rw [e]; simp)
    cases F with
    | zero => omega
    | succ F =>
      have hf2 : Fr [13] [(2, 17)] M0 (sI (sA M 13 (KU + u.length) (Int32.ofNat x)) 2 17 (Int32.ofNat (KU + (u.length + 1)))) := (hf.tr (Fr.stA (by decide))).tr (Fr.stI (by decide))
      obtain ⟨M1, a1, a2, a3, a4, a5⟩ := ih (u ++ [x]) (sI (sA M 13 (KU + u.length) (Int32.ofNat x)) 2 17 (Int32.ofNat (KU + (u.length + 1)))) F (by rw [e, List.append_assoc]; rfl) (by rw [gI_sI, if_pos ⟨rfl, rfl⟩, List.length_append, List.length_singleton]) (fun j hj => by
        rw [List.length_append, List.length_singleton] at hj
        rw [gA_sI, gA_sA]
        by_cases hju : j = u.length
        · rw [if_pos ⟨rfl, by rw [hju]⟩, hju, gx]
        · rw [if_neg (by omega)]; exact h2 j (by omega)) (fun p hp => by
        rw [gA_sI, gA_sA, if_neg (by omega)]; exact h3 p hp) hf2 (by omega)
      refine ⟨M1, ?_, a2, a3, a4, a5⟩
      refine Eq.trans ?_ a1
      have gen : ∀ k55, m_Terms_addNode_55b k55 (Int32.ofNat s) o code (Int32.ofNat U) (Int32.ofNat (1 + sumL g u)) (Int32.ofNat (cntN g u)) (Int32.ofNat u.length) M = k55 (Int32.ofNat s, o, code, Int32.ofNat U, Int32.ofNat (1 + sumL g (u ++ [x])), Int32.ofNat (cntN g (u ++ [x])), Int32.ofNat (u ++ [x]).length, sI (sA M 13 (KU + u.length) (Int32.ofNat x)) 2 17 (Int32.ofNat (KU + (u.length + 1)))) := by
        intro k55
        have hwl := hW.2.1
        have hwl2 := hW.2.2.2.1
        have e4 : gA (sI (sA M 13 (KU + u.length) (Int32.ofNat x)) 2 17 (Int32.ofNat (KU + (u.length + 1)))) 4 x = Int32.ofNat (ttx g x).length := by rw [hf2.ga (by decide)]; exact hr4 x hxU
        have e5 : gA (sI (sA M 13 (KU + u.length) (Int32.ofNat x)) 2 17 (Int32.ofNat (KU + (u.length + 1)))) 5 x = b01 (NS (ttx g x)) := by rw [hf2.ga (by decide)]; exact hr5 x hxU
        have hl2 := hf2.ln
        have hl1 := hf.ln
        unfold m_Terms_addNode_55b
        rw [c_size hR hWM, cal_same, if_neg (by show ¬ Int32.ofNat own.length ≤ Int32.ofNat u.length; rw [i_le_of (by omega) (by omega)]; omega), c_get hR hWM (by omega), cal_same, gx]
        rw [show gI (M, Int32.ofNat x).1 2 17 = Int32.ofNat (KU + u.length) from h1, st_of (by show _ < gL M 13; rw [hl1]; omega) (by omega), Option.bind_some, Option.bind_some]
        rw [show gI (sA (M, Int32.ofNat x).1 13 (KU + u.length) (M, Int32.ofNat x).2) 2 17 = Int32.ofNat (KU + u.length) from h1, i_inc, show KU + u.length + 1 = KU + (u.length + 1) by omega]
        show ((ldA (sI (sA M 13 (KU + u.length) (Int32.ofNat x)) 2 17 (Int32.ofNat (KU + (u.length + 1)))) 4 (Int32.ofNat x)).bind fun v5 => _) = _
        rw [ld_of (by rw [hl2]; omega) (by omega), e4, Option.bind_some]
        rw [ld_of (by rw [hl2]; omega) (by omega), e5, Option.bind_some, i_add_of, i_inc, sumL_snoc, cntN_snoc, List.length_append, List.length_singleton, Nat.add_assoc]
        have eb : Int32.ofNat (cntN g u) + b01 (NS (ttx g x)) = Int32.ofNat (cntN g u + if NS (ttx g x) = true then 1 else 0) := by
          cases NS (ttx g x) with
          | true => exact i_add_of _ 1
          | false => exact i_add_of _ 0
        rw [eb]
      exact gen _
