/-! STEP 2, the class: what all that was gathered comes to -/
theorem TB.so2 {g : TG} (h : TB g) {i : Nat} (hi : i < tU g) : tso g i = 2 ↔ (1 ≤ i ∧ i < 16) := by
  by_cases h18 : 18 ≤ i
  · have := (h.2.2.2.2.1 i h18 hi).1.lt
    omega
  · by_cases h17 : i = 17
    · rw [h17, h.2.2.2.1.1]; omega
    · by_cases h16 : i = 16
      · rw [h16, h.2.2.1.1]; omega
      · rw [(h.2.1 i (by omega)).1]
        split <;> omega
theorem TB.tsw {g : TG} (h : TB g) {s : Nat} : ttx g (swI s) = swS s ∧ ttx g (neI s) = neS s := by
  unfold swI swS neI neS
  split
  · exact ⟨h.t17, h.t0⟩
  · exact ⟨h.t0, h.t17⟩
theorem swI_lt {g : TG} (h : TB g) (s : Nat) : swI s < tU g ∧ neI s < tU g := by
  have := h.1
  unfold swI neI
  split <;> omega
theorem TB.tcl {g : TG} (h : TB g) {i : Nat} (hi : 1 ≤ i ∧ i < 16) : ttx g i = [2 + 8 * i] := by
  rw [(h.2.1 i hi.2).2.2]
  unfold ltT
  rw [if_neg (by omega), if_neg (by omega)]
def ownF (s : Nat) (T : List Nat) : List Nat := srN (otF s T ++ (if clF T = [] then [] else [clV s T]))
theorem clV_pos {T : List Nat} (h : clF T ≠ []) : clV 4 T ≠ 0 := by
  have q : ∀ (l : List Nat) (a : Nat), a ≤ l.foldl (opL 4) a := by
    intro l
    induction l with
    | nil => intro a; exact Nat.le_refl _
    | cons x l ih =>
      intro a
      refine Nat.le_trans ?_ (ih (opL 4 a x))
      show a ≤ if 4 = 4 then a ||| x else a &&& x
      rw [if_pos rfl]
      exact Nat.left_le_or
  unfold clV
  cases hc : clF T with
  | nil => exact absurd hc h
  | cons x l =>
    have hx : x ∈ clF T := by rw [hc]; exact List.mem_cons_self
    have hx2 := (List.mem_filter.mp hx).2
    simp only [decide_eq_true_eq] at hx2
    rw [List.foldl_cons, opL_first hx2.2]
    have := q l x
    omega
theorem uni_ids {g : TG} (h : TB g) {s : Nat} (hs : s = 4 ∨ s = 5) {T : List Nat} (hT : ∀ i ∈ T, i < tU g) : (swI s ∈ T → uni s (T.map (ttx g)) = swS s) ∧ (swI s ∉ T → clF T ≠ [] → clV s T = 0 → uni s (T.map (ttx g)) = [0]) ∧ (swI s ∉ T → ¬ (clF T ≠ [] ∧ clV s T = 0) → (∀ k ∈ ownF s T, k < tU g) ∧ uni s (T.map (ttx g)) = (match ownF s T with
    | [] => neS s
    | [k] => ttx g k
    | a :: b :: r => txF s ((a :: b :: r).map (ttx g)))) := by
  have hsw : swS s ∈ T.map (ttx g) ↔ swI s ∈ T := by
    constructor
    · intro hm
      obtain ⟨k, k1, k2⟩ := List.mem_map.mp hm
      rw [← h.tsw.1] at k2
      rw [← h.inj (hT k k1) (swI_lt h s).1 k2]
      exact k1
    · intro hm
      exact List.mem_map.mpr ⟨_, hm, h.tsw.1⟩
  have hcl : (T.map (ttx g)).filter (fun p => decide (hd p % 8 = 2)) = (clF T).map (ttx g) := by
    rw [List.filter_map]
    congr 1
    unfold clF
    apply List.filter_congr
    intro i hi
    show decide (hd (ttx g i) % 8 = 2) = decide (1 ≤ i ∧ i < 16)
    rw [h.so (hT i hi)]
    congr 1
    exact propext (h.so2 (hT i hi))
  have hlt : ltS s ((clF T).map (ttx g)) = clV s T := by
    unfold ltS clV
    rw [List.map_map]
    have : (clF T).map ((fun p => hd p / 8) ∘ ttx g) = clF T := by
      conv => rhs; rw [← List.map_id (clF T)]
      apply List.map_congr_left
      intro i hi
      have hi2 := (List.mem_filter.mp hi).2
      simp only [decide_eq_true_eq] at hi2
      show hd (ttx g i) / 8 = i
      rw [h.tcl hi2]
      show (2 + 8 * i) / 8 = i
      omega
    rw [this]
    rfl
  have hcn : ((clF T).map (ttx g) = []) ↔ clF T = [] := List.map_eq_nil_iff
  refine ⟨fun hm => ?_, fun hm h1 h2 => ?_, fun hm h1 => ?_⟩
  · unfold uni
    rw [if_pos (hsw.mpr hm)]
  · unfold uni
    rw [if_neg (fun q => hm (hsw.mp q)), hcl, hlt, if_pos ⟨fun q => h1 (hcn.mp q), h2⟩]
  · have hot : (T.map (ttx g)).filter (fun p => decide (¬ hd p % 8 = 2 ∧ p ≠ neS s)) = (otF s T).map (ttx g) := by
      rw [List.filter_map]
      congr 1
      unfold otF
      apply List.filter_congr
      intro i hi
      show decide (¬ hd (ttx g i) % 8 = 2 ∧ ttx g i ≠ neS s) = decide (¬ (1 ≤ i ∧ i < 16) ∧ i ≠ swI s ∧ i ≠ neI s)
      rw [h.so (hT i hi)]
      congr 1
      refine propext ⟨fun ⟨q1, q2⟩ => ⟨fun q => q1 ((h.so2 (hT i hi)).mpr q), fun q => hm (q ▸ hi), fun q => q2 (by rw [q, h.tsw.2])⟩, fun ⟨q1, q2, q3⟩ => ⟨fun q => q1 ((h.so2 (hT i hi)).mp q), fun q => q3 (h.inj (hT i hi) (swI_lt h s).2 (by rw [q, h.tsw.2]))⟩⟩
    have hU18 := h.1
    have hcr : clF T ≠ [] → 1 ≤ clV s T ∧ clV s T < 16 := fun q => by
      have := clV_le s T
      have : ¬ clV s T = 0 := fun q2 => h1 ⟨q, q2⟩
      omega
    have hin : ∀ k, k ∈ ownF s T ↔ k ∈ otF s T ∨ (clF T ≠ [] ∧ k = clV s T) := fun k => by
      unfold ownF
      rw [mem_srN, List.mem_append]
      by_cases hc : clF T = []
      · rw [if_pos hc]
        simp [hc]
      · rw [if_neg hc]
        simp [hc]
    have ho : ∀ k ∈ ownF s T, k < tU g := fun k hk => by
      rcases (hin k).mp hk with q | ⟨q1, q2⟩
      · exact hT k (List.mem_filter.mp q).1
      · have := hcr q1; omega
    refine ⟨ho, ?_⟩
    have hnd := h.mapnd ho (srN_srt _)
    have hext : srt ((otF s T).map (ttx g) ++ (if clF T = [] then [] else [[2 + 8 * clV s T]])) = srt ((ownF s T).map (ttx g)) := by
      refine srt_ext (fun t => ?_)
      rw [List.mem_append]
      constructor
      · intro q
        rcases q with q | q
        · obtain ⟨k, k1, k2⟩ := List.mem_map.mp q
          exact List.mem_map.mpr ⟨k, (hin k).mpr (Or.inl k1), k2⟩
        · by_cases hc : clF T = []
          · rw [if_pos hc] at q; cases q
          · rw [if_neg hc] at q
            rw [List.mem_singleton.mp q]
            exact List.mem_map.mpr ⟨clV s T, (hin _).mpr (Or.inr ⟨hc, rfl⟩), h.tcl (hcr hc)⟩
      · intro q
        obtain ⟨k, k1, k2⟩ := List.mem_map.mp q
        rcases (hin k).mp k1 with k1 | ⟨k1, k3⟩
        · exact Or.inl (List.mem_map.mpr ⟨k, k1, k2⟩)
        · right
          rw [if_neg k1, ← k2, k3, h.tcl (hcr k1)]
          exact List.mem_singleton.mpr rfl
    have hlen := srt_len_nodup hnd
    unfold uni
    rw [if_neg (fun q => hm (hsw.mp q)), hcl, hlt, hot]
    have hcond : ¬ ((clF T).map (ttx g) ≠ [] ∧ clV s T = 0) := fun q => h1 ⟨fun q2 => q.1 (hcn.mpr q2), q.2⟩
    rw [if_neg hcond]
    have hif : (if (clF T).map (ttx g) = [] then ([] : List (List Nat)) else [[2 + 8 * clV s T]]) = if clF T = [] then [] else [[2 + 8 * clV s T]] := by
      by_cases hc : clF T = []
      · rw [if_pos hc, if_pos (hcn.mpr hc)]
      · rw [if_neg hc, if_neg (fun q => hc (hcn.mp q))]
    rw [hif, hext]
    match hq : ownF s T, hlen with
    | [], hlen => rfl
    | [k], hlen =>
      show mkS s (srt [ttx g k]) = ttx g k
      rfl
    | a :: b :: r, hlen =>
      show mkS s (srt ((a :: b :: r).map (ttx g))) = txF s ((a :: b :: r).map (ttx g))
      unfold txF
      rw [if_pos hs, ← hlen]
      match hl : srt ((a :: b :: r).map (ttx g)), hlen with
      | [], hlen => simp at hlen
      | [x], hlen => simp at hlen
      | x :: y :: z, _ => rfl
def FGa : List (Nat × Nat) := [(22, 1), (21, 1), (21, 2), (21, 3)]
theorem TI.ga {g : TG} {M M1 : MS} (h : TI g M) (hf : FC [23] FGa M M1) : TI g M1 := h.fc hf (fun a h1 h2 => Or.inl (fun q => by have := List.mem_singleton.mp q; omega)) ⟨hf.gl (by decide), hf.gl (by decide)⟩ (by decide) (by decide)
/-- gather: a term's kids, or the term itself, are taken -/
theorem c_gather {g : TG} {M : MS} {s i : Nat} {T : List Nat} (h : TI g M) (hs : s = 4 ∨ s = 5) (hS : GS M s T) (hG : GD M) (hi : i < tU g) (hT : ∀ k ∈ T, k < tU g) (hl : T.length + (kdP g s i).length < 1000000) :
    ∃ M1, m_Terms_gather (Int32.ofNat s) (Int32.ofNat i) M = some (M1, ()) ∧ GS M1 s (T ++ kdP g s i) ∧ TI g M1 ∧ FC [23] FGa M M1 ∧ gL M1 23 ≤ max (gL M 23) (2 * (T.length + (kdP g s i).length)) := by
  have hlt := h.2.1.lt
  have hT' : ∀ k ∈ T, k < 131072 := fun k hk => Nat.lt_of_lt_of_le (hT k hk) hlt.1
  have hso : tso g i < 8 := by
    rw [← h.1.so hi]
    exact Nat.mod_lt _ (by omega)
  obtain ⟨-, ⟨m3, m4⟩, ⟨l4, l5, l6, l7, -⟩, -, mi⟩ := h.2.1
  obtain ⟨a3, -, -, -, a7, -, -⟩ := mi i hi
  unfold m_Terms_gather
  rw [ld_of (by omega) (by omega), a3, Option.bind_some]
  by_cases hc : tso g i = s
  · have hk : kdP g s i = tkd g i := if_pos hc
    rw [hk] at hl ⊢
    rw [if_pos (by rw [hc])]
    have loop : ∀ (v u : List Nat) (M' : MS) (F : Nat), tkd g i = u ++ v → GS M' s (T ++ u) → TI g M' → FC [23] FGa M M' → gL M' 23 ≤ max (gL M 23) (2 * (T.length + u.length)) → v.length < F → ∃ M1, fx (fun (k : Int32 × Int32 × MS → Option (MS × Unit)) (i : Int32 × Int32 × MS) => m_Terms_gather_21b k i.1 i.2.1 i.2.2) F (Int32.ofNat i, Int32.ofNat u.length, M') = some (M1, ()) ∧ GS M1 s (T ++ tkd g i) ∧ TI g M1 ∧ FC [23] FGa M M1 ∧ gL M1 23 ≤ max (gL M 23) (2 * (T.length + (tkd g i).length)) := by
      intro v
      induction v with
      | nil =>
        intro u M' F e hS' hI' hf' hg' hF
        rw [List.append_nil] at e
        rw [← e] at hS' hg'
        cases F with
        | zero => simp at hF
        | succ F =>
          refine ⟨M', ?_, hS', hI', hf', hg'⟩
          have gen : ∀ k, m_Terms_gather_21b k (Int32.ofNat i) (Int32.ofNat u.length) M' = some (M', ()) := by
            intro k
            obtain ⟨-, ⟨n3, n4⟩, ⟨p4, p5, p6, p7, -⟩, -, mi'⟩ := hI'.2.1
            obtain ⟨-, -, -, -, b7, -, -⟩ := mi' i hi
            unfold m_Terms_gather_21b
            rw [ld_of (by omega) (by omega), b7, Option.bind_some, e, if_pos (Int32.le_refl _)]
          exact gen _
      | cons x v ih =>
        intro u M' F e hS' hI' hf' hg' hF
        rw [List.length_cons] at hF
        have hol : (tkd g i).length = u.length + (v.length + 1) := by rw [e, List.length_append, List.length_cons]
        have gx : (tkd g i).getD u.length 0 = x := by rw [e]; simp
        have hxU : x < tU g := Nat.lt_trans (h.1.kids hi x (by rw [e]; simp)) hi
        cases F with
        | zero => omega
        | succ F =>
          obtain ⟨M2, t1, t2, t3, t4⟩ := c_take (M := M') (i := x) hs hS' (hG.fc hf') (by omega) (fun k hk => by
            rcases List.mem_append.mp hk with q | q
            · exact hT' k q
            · have := Nat.lt_trans (h.1.kids hi k (by rw [e]; exact List.mem_append_left _ q)) hi
              omega) (by rw [List.length_append]; omega)
          rw [List.append_assoc] at t2
          rw [List.length_append] at t4
          obtain ⟨M1, b1, b2, b3, b4, b5⟩ := ih (u ++ [x]) M2 F (by rw [e, List.append_assoc]; rfl) t2 (hI'.ga t3) (hf'.tr t3) (by rw [List.length_append, List.length_singleton]; omega) (by omega)
          refine ⟨M1, ?_, b2, b3, b4, b5⟩
          refine Eq.trans ?_ b1
          have gen : ∀ k, m_Terms_gather_21b k (Int32.ofNat i) (Int32.ofNat u.length) M' = k (Int32.ofNat i, Int32.ofNat (u ++ [x]).length, M2) := by
            intro k
            obtain ⟨-, ⟨n3, n4⟩, ⟨p4, p5, p6, p7, -⟩, -, mi'⟩ := hI'.2.1
            obtain ⟨-, -, -, -, b7, -, -⟩ := mi' i hi
            unfold m_Terms_gather_21b
            rw [ld_of (by omega) (by omega), b7, Option.bind_some, if_neg (by rw [i_le_of (by omega) (by omega)]; omega), c_kid hI' hi (by omega), cal_same, gx, cal_some t1 t3.le.1 t3.le.2, i_inc, List.length_append, List.length_singleton]
          exact gen _
    exact loop (tkd g i) [] M FU rfl (by rw [List.append_nil]; exact hS) h FC.rf (by omega) (by unfold FU; omega)
  · have hk : kdP g s i = [i] := if_neg hc
    rw [hk] at hl ⊢
    rw [if_neg (by rw [i_eq_of (by omega) (by omega)]; exact hc)]
    rw [List.length_singleton] at hl ⊢
    obtain ⟨M2, t1, t2, t3, t4⟩ := c_take (M := M) (i := i) hs hS hG (by omega) hT' (by omega)
    rw [cal_some t1 t3.le.1 t3.le.2]
    exact ⟨M2, rfl, t2, h.ga t3, t3, by omega⟩
