/-! STEP 2, the class: what a gathering comes to; not, star -/
def RN : List Nat := [3, 4, 5, 6, 7, 8, 9, 10, 11, 12, 13, 14, 16, 18, 23]
def FN : List (Nat × Nat) := [(2, 16), (2, 17), (15, 1), (17, 1), (22, 1), (21, 1), (21, 2), (21, 3)]
/-- the rows that the table's methods use -/
def RO (M : MS) : Prop := (∃ l, RW M 15 16 l) ∧ (∃ l, RW M 17 18 l) ∧ (∃ l, RW M 22 23 l) ∧ gL M 16 ≤ 128 ∧ gL M 18 ≤ 100000 ∧ gL M 23 ≤ 200000 ∧ gL M 13 ≤ 1000000
/-- how a method of the table ends: the id of this text, at most n terms and k kids more -/
def NR (g : TG) (M : MS) (t : List Nat) (n k : Nat) (x : Option (MS × Int32)) : Prop := ∃ M1 g' i, x = some (M1, Int32.ofNat i) ∧ TI g' M1 ∧ TE g g' ∧ i < tU g' ∧ ttx g' i = t ∧ tU g' ≤ tU g + n ∧ tKU g' ≤ tKU g + k ∧ FC RN FN M M1 ∧ RO M1 ∧ (∀ p, p < 4 * tU g → gA M1 12 p = gA M 12 p)
theorem NR.here {g : TG} {M : MS} {t : List Nat} {n k i : Nat} (h : TI g M) (hr : RO M) (hi : i < tU g) (ht : ttx g i = t) : NR g M t n k (some (M, Int32.ofNat i)) := ⟨M, g, i, rfl, h, TE.rf, hi, ht, by omega, by omega, FC.rf, hr, fun _ _ => rfl⟩
theorem isR15 : isR 15 16 := Or.inl ⟨rfl, rfl⟩
theorem isR17 : isR 17 18 := Or.inr (Or.inl ⟨rfl, rfl⟩)
theorem isR19 : isR 19 20 := Or.inr (Or.inr (Or.inl ⟨rfl, rfl⟩))
theorem isR78 : isR 78 79 := Or.inr (Or.inr (Or.inr (Or.inr ⟨rfl, rfl⟩)))
/-- node, with the rows around it -/
theorem c_nodeR {g : TG} {M : MS} {s o it : Nat} {own : List Nat} (h : TI g M) (hr : RO M) (hG : GD M) (hs : shp g s own) (hR : isR o it) (hW : RW M o it own) (ho : ∀ k ∈ own, k < tU g) (hl : (txF s (own.map (ttx g))).length ≤ 1000000) (hU : tU g < 131072) (hK : tKU g + own.length ≤ 500000) :
    ∃ M1 g' i, m_Terms_node (Int32.ofNat s) o M = some (M1, Int32.ofNat i) ∧ TI g' M1 ∧ TE g g' ∧ i < tU g' ∧ ttx g' i = txF s (own.map (ttx g)) ∧ tso g' i = s ∧ tkd g' i = own ∧ tU g' ≤ tU g + 1 ∧ tKU g' ≤ tKU g + own.length ∧ FC RN FN M M1 ∧ RO M1 ∧ (∀ o' it' l, isR o' it' → RW M o' it' l → RW M1 o' it' l) ∧ gL M1 16 = gL M 16 ∧ gL M1 18 = gL M 18 ∧ (∀ p, p < 4 * tU g → gA M1 12 p = gA M 12 p) := by
  obtain ⟨M1, g', i, a1, a2, a3, a4, a5, a6, a7, a8, a9, a10, a11, a12, a13⟩ := c_node h hG hs hR hW ho hl hU (by omega)
  have hkeep : ∀ o' it' l, isR o' it' → RW M o' it' l → RW M1 o' it' l := fun o' it' l hR' hW' => hW'.fc a11 (by rcases hR' with ⟨rfl, rfl⟩ | ⟨rfl, rfl⟩ | ⟨rfl, rfl⟩ | ⟨rfl, rfl⟩ | ⟨rfl, rfl⟩ <;> decide) (by rcases hR' with ⟨rfl, rfl⟩ | ⟨rfl, rfl⟩ | ⟨rfl, rfl⟩ | ⟨rfl, rfl⟩ | ⟨rfl, rfl⟩ <;> decide)
  obtain ⟨⟨l1, r1⟩, ⟨l2, r2⟩, ⟨l3, r3⟩, r4, r5, r6, r7⟩ := hr
  have e16 := a11.gl (a := 16) (by decide)
  have e18 := a11.gl (a := 18) (by decide)
  have e23 := a11.gl (a := 23) (by decide)
  refine ⟨M1, g', i, a1, a2, a3, a4, a6, a7, a8, a9, a10, a11.mono (by decide) (by decide), ⟨⟨l1, hkeep _ _ _ isR15 r1⟩, ⟨l2, hkeep _ _ _ isR17 r2⟩, ⟨l3, hkeep _ _ _ isR22 r3⟩, by rw [e16]; exact r4, by rw [e18]; exact r5, by rw [e23]; exact r6, by omega⟩, hkeep, e16, e18, a13⟩
theorem ownF_len (s : Nat) (T : List Nat) : (ownF s T).length ≤ T.length + 1 := by
  unfold ownF
  refine Nat.le_trans (srN_len _) ?_
  rw [List.length_append]
  have : (otF s T).length ≤ T.length := List.length_filter_le _ _
  split
  · simp; omega
  · simp; omega
theorem RO.ga {M M1 : MS} (h : RO M) (hf : FC [23] FGa M M1) {l : List Nat} (hW : RW M1 22 23 l) (hg : gL M1 23 ≤ 200000) : RO M1 := by
  obtain ⟨⟨l1, r1⟩, ⟨l2, r2⟩, -, r4, r5, r6, r7⟩ := h
  exact ⟨⟨l1, r1.fc hf (by decide) (by decide)⟩, ⟨l2, r2.fc hf (by decide) (by decide)⟩, ⟨l, hW⟩, by rw [hf.gl (by decide)]; exact r4, by rw [hf.gl (by decide)]; exact r5, hg, by rw [hf.gl (by decide)]; exact r7⟩
/-- gathered: OR or AND of all that was taken -/
theorem c_gathered {g : TG} {M : MS} {s : Nat} {T : List Nat} (h : TI g M) (hr : RO M) (hG : GD M) (hs : s = 4 ∨ s = 5) (hS : GS M s T) (hT : ∀ k ∈ T, k < tU g) (hl : T.length < 90000) (hfl : (T.map (ttx g)).flatten.length ≤ 900000) (hU : tU g < 131072) (hK : tKU g + T.length + 1 ≤ 500000) :
    NR g M (uni s (T.map (ttx g))) 1 (T.length + 1) (m_Terms_gathered (Int32.ofNat s) M) := by
  have hlt := h.2.1.lt
  obtain ⟨u1, u2, u3⟩ := uni_ids h.1 hs hT
  obtain ⟨sw1, ne1⟩ := c_swallower hs hS
  obtain ⟨g1, g2, g3, g4⟩ := id hS
  have hswU := swI_lt h.1 s
  have hswI : swI s < 131072 := by omega
  have hneI : neI s < 131072 := by omega
  unfold m_Terms_gathered
  -- the swallower
  have swal : uni s (T.map (ttx g)) = swS s → NR g M (uni s (T.map (ttx g))) 1 (T.length + 1) (cal cM M (m_Gathering_single_14 M) fun r1 => if ¬ r1.2 = (-1 : Int32) then (some (r1.1, r1.2)) else (cal cM r1.1 (m_Gathering_own r1.1) fun r2 => if x_kd r2.2 = 1 then (cal cM r2.1 (m_Terms_node (Int32.ofNat s) r2.2 r2.1) fun r4 => some (r4.1, r4.2)) else none)) := by
    intro e
    unfold m_Gathering_single_14
    rw [sw1, cal_same, cal_same, if_pos (by show ¬ Int32.ofNat (swI s) = -1; exact i_nm1 (by omega))]
    exact NR.here h hr hswU.1 (by rw [e]; exact h.1.tsw.1)
  unfold m_Gathering_single
  rw [g2, g3]
  by_cases c1 : swI s ∈ T
  · rw [decide_eq_true c1, if_pos (by decide)]
    exact swal (u1 c1)
  · rw [decide_eq_false c1, if_neg (by decide)]
    by_cases c2 : clF T ≠ [] ∧ clV s T = 0
    · have h5 : s = 5 := by
        rcases hs with rfl | rfl
        · exact absurd c2.2 (clV_pos c2.1)
        · rfl
      rw [if_neg c2.1, c2.2, if_neg (by decide)]
      refine swal ?_
      rw [u2 c1 c2.1 c2.2, h5]
      rfl
    · obtain ⟨ho, e⟩ := u3 c1 c2
      -- what is left, with the letters among it
      have end38 : ∀ M2 : MS, RO M2 → FC [23] [(22, 1)] M M2 → RW M2 22 23 (ownF s T) → NR g M (uni s (T.map (ttx g))) 1 (T.length + 1) (cal cM M (m_Gathering_single_38 M2) fun r1 => if ¬ r1.2 = (-1 : Int32) then (some (r1.1, r1.2)) else (cal cM r1.1 (m_Gathering_own r1.1) fun r2 => if x_kd r2.2 = 1 then (cal cM r2.1 (m_Terms_node (Int32.ofNat s) r2.2 r2.1) fun r4 => some (r4.1, r4.2)) else none)) := by
        intro M2 hr2 hf2 hW2
        have hol := ownF_len s T
        have hff : FC RN FN M M2 := hf2.mono (by decide) (by decide)
        have hI2 : TI g M2 := h.row isR22 hf2
        have hwl := hW2.2.1
        have hwl2 := hW2.2.2.2.1
        have ne2 : m_Gathering_neutral M2 = some (M2, Int32.ofNat (neI s)) := by
          unfold m_Gathering_neutral
          rw [hf2.gi (by decide), g1]
          rcases hs with rfl | rfl
          · rw [if_neg (by decide)]; rfl
          · rw [if_pos (by decide)]; rfl
        have ends : ∀ i, i < tU g → ttx g i = uni s (T.map (ttx g)) → m_Gathering_single_38 M2 = some (M2, Int32.ofNat i) → NR g M (uni s (T.map (ttx g))) 1 (T.length + 1) (cal cM M (m_Gathering_single_38 M2) fun r1 => if ¬ r1.2 = (-1 : Int32) then (some (r1.1, r1.2)) else (cal cM r1.1 (m_Gathering_own r1.1) fun r2 => if x_kd r2.2 = 1 then (cal cM r2.1 (m_Terms_node (Int32.ofNat s) r2.2 r2.1) fun r4 => some (r4.1, r4.2)) else none)) := by
          intro i hi ht he
          rw [cal_some he hf2.le.1 hf2.le.2, if_pos (by show ¬ Int32.ofNat i = -1; exact i_nm1 (by omega))]
          exact ⟨M2, g, i, rfl, hI2, TE.rf, hi, ht, by omega, by omega, hff, hr2, fun p _ => by rw [hf2.ga (by decide)]⟩
        have hsz := c_size isR22 hW2
        match hq : ownF s T, e with
        | [], e =>
          rw [hq] at hsz hW2
          refine ends (neI s) hswU.2 (by rw [e]; exact h.1.tsw.2) ?_
          unfold m_Gathering_single_38
          rw [hsz, cal_same, if_neg (by show ¬ ¬ Int32.ofNat 0 = 0; decide), ne2, cal_same]
        | [k], e =>
          rw [hq] at hsz hW2
          refine ends k (ho k (by rw [hq]; simp)) e.symm ?_
          unfold m_Gathering_single_38
          rw [hsz, cal_same, if_pos (by show ¬ Int32.ofNat 1 = 0; decide), hsz, cal_same, if_neg (by show ¬ ¬ Int32.ofNat 1 = 1; decide), show m_Row_get 22 (0 : Int32) M2 = some (M2, Int32.ofNat k) from c_get (j := 0) isR22 hW2 (by simp), cal_same]
        | a :: b :: r, e =>
          rw [hq] at hsz hW2 hol ho
          have h38 : m_Gathering_single_38 M2 = some (M2, -1) := by
            have hlen : (a :: b :: r).length = r.length + 2 := rfl
            unfold m_Gathering_single_38
            rw [hsz, cal_same, if_pos (by show ¬ Int32.ofNat (a :: b :: r).length = 0; rw [hlen, i_eq, i_of (by omega), i_0]; omega), hsz, cal_same, if_pos (by show ¬ Int32.ofNat (a :: b :: r).length = 1; rw [hlen, i_eq, i_of (by omega), i_1]; omega)]
          have hsr : SrN (a :: b :: r) := by rw [← hq]; exact srN_srt _
          have e' : uni s (T.map (ttx g)) = txF s ((a :: b :: r).map (ttx g)) := e
          have hlen2 : (txF s ((a :: b :: r).map (ttx g))).length ≤ 1000000 := by
            rw [← e']
            have := uni_len2 (s := s) (ps := T.map (ttx g)) (fun p hp => by
              obtain ⟨k, hk, rfl⟩ := List.mem_map.mp hp
              exact h.1.wf (hT k hk))
            omega
          obtain ⟨M3, g', i, b1, b2, b3, b4, b5, b6, b7, b8, b9, b10, b11, b12, b13, b14, b15⟩ := c_nodeR hI2 hr2 (hG.fc hf2) (Or.inr (Or.inl ⟨hs, by simp, hsr⟩)) isR22 hW2 ho hlen2 hU (by omega)
          rw [cal_some h38 hf2.le.1 hf2.le.2, if_neg (by show ¬ ¬ (-1 : Int32) = -1; decide)]
          unfold m_Gathering_own
          rw [cal_same, if_pos (show x_kd 22 = 1 by decide), cal_some b1 b10.le.1 b10.le.2]
          exact ⟨M3, g', i, rfl, b2, b3, b4, by rw [b5, e'], by omega, by omega, hff.tr b10, b11, fun p hp => (b15 p hp).trans (by rw [hf2.ga (by decide)])⟩
      by_cases c3 : clF T = []
      · rw [if_pos c3, if_pos (by decide), if_pos rfl]
        refine end38 M hr FC.rf ?_
        have : ownF s T = srN (otF s T) := by unfold ownF; rw [if_pos c3, List.append_nil]
        rw [this]
        exact g4
      · have hcv := clV_le s T
        have hcv0 : clV s T ≠ 0 := fun q => c2 ⟨c3, q⟩
        have hll : (srN (otF s T)).length ≤ T.length := Nat.le_trans (srN_len _) (List.length_filter_le _ _)
        obtain ⟨M2, a1, a2, a3, a4⟩ := c_addInOrder (M := M) (x := clV s T) g4 hG (srN_srt _) (by omega) (by omega) (fun y hy => by
          have := hT y (List.mem_filter.mp (mem_srN.mp hy)).1
          omega)
        rw [if_neg c3, if_pos (by show ¬ Int32.ofNat (clV s T) = 0; rw [i_eq, i_of (by omega), i_0]; omega), if_neg (i_nm1 (by omega))]
        have hown : ownF s T = insN (clV s T) (srN (otF s T)) := by unfold ownF; rw [if_neg c3, srN_snoc]
        rw [← hown] at a2
        have hr2 : RO M2 := hr.ga (a3.mono (by decide) (by decide)) a2 (by have := hr.2.2.2.2.2.1; omega)
        have := end38 M2 hr2 a3 a2
        rw [cal_some a1 a3.le.1 a3.le.2]
        exact this
theorem hd0 {g : TG} (h : TB g) {i : Nat} (hi : i < tU g) : i = 0 ↔ ttx g i = [0] := ⟨fun e => by rw [e]; exact h.t0, fun e => h.inj hi (by have := h.1; omega) (by rw [e]; exact h.t0.symm)⟩
theorem hd16 {g : TG} (h : TB g) {i : Nat} (hi : i < tU g) : i = 16 ↔ ttx g i = [1] := ⟨fun e => by rw [e]; exact h.t16, fun e => h.inj hi (by have := h.1; omega) (by rw [e]; exact h.t16.symm)⟩
theorem so_hd {g : TG} (h : TB g) {i s : Nat} (hi : i < tU g) (hs : s = 3 ∨ s = 6 ∨ s = 7) : tso g i = s ↔ hd (ttx g i) = s := by
  rw [← h.so hi]
  rcases h.pr hi _ (hd_mem (h.wf hi)) with q | q | q <;> omega
/-- one kid in the row of parts -/
theorem c_one {g : TG} {M : MS} {x : Nat} (h : TI g M) (hr : RO M) (hG : GD M) : ∃ M1, (∀ {α : Type} (k : MS × Unit → Option α), (cal cM M (m_Row_clear 15 M) fun r2 => cal cM r2.1 (m_Row_add 15 (Int32.ofNat x) r2.1) k) = k (M1, ())) ∧ RW M1 15 16 [x] ∧ TI g M1 ∧ RO M1 ∧ FC RN FN M M1 ∧ gA M1 12 = gA M 12 := by
  obtain ⟨⟨l1, r1⟩, ⟨l2, r2⟩, ⟨l3, r3⟩, r4, r5, r6, r7⟩ := id hr
  obtain ⟨c1, c2, c3⟩ := c_clear isR15 r1
  obtain ⟨M1, a1, a2, a3, a4⟩ := c_add (x := x) isR15 c2 (hG.fc c3) (by simp)
  have hf : FC [16] [(15, 1)] M M1 := c3.tr a3
  rw [List.nil_append] at a2
  refine ⟨M1, fun k => ?_, a2, h.row isR15 hf, ⟨⟨_, a2⟩, ⟨l2, r2.fc hf (by decide) (by decide)⟩, ⟨l3, r3.fc hf (by decide) (by decide)⟩, ?_, by rw [hf.gl (by decide)]; exact r5, by rw [hf.gl (by decide)]; exact r6, by rw [hf.gl (by decide)]; exact r7⟩, hf.mono (by decide) (by decide), hf.ga (by decide)⟩
  · rw [c1, cal_sI, cal_some a1 a3.le.1 a3.le.2]
  · have : gL (sI M 15 1 0) 16 = gL M 16 := rfl
    rw [List.length_nil] at a4
    omega
/-- not -/
theorem c_not {g : TG} {M : MS} {i : Nat} (h : TI g M) (hr : RO M) (hG : GD M) (hi : i < tU g) (hl : (ttx g i).length ≤ 900000) (hU : tU g < 131072) (hK : tKU g + 1 ≤ 500000) : NR g M (notS (ttx g i)) 1 1 (m_Terms_not (Int32.ofNat i) M) := by
  have hlt := h.2.1.lt
  have hU18 := h.1.1
  obtain ⟨-, ⟨m3, m4⟩, ⟨l4, l5, l6, l7, -⟩, -, mi⟩ := h.2.1
  obtain ⟨a3, -, -, -, a7, -, -⟩ := mi i hi
  have hso : tso g i < 8 := by
    rw [← h.1.so hi]
    exact Nat.mod_lt _ (by omega)
  unfold m_Terms_not
  by_cases h0 : i = 0
  · rw [if_neg (by rw [h0]; decide)]
    refine NR.here (i := 17) h hr (by omega) ?_
    rw [h.1.t17, (hd0 h.1 hi).mp h0]
    rfl
  · rw [if_pos (by rw [i_eq, i_of (by omega), i_0]; omega), ld_of (by omega) (by omega), a3, Option.bind_some]
    by_cases h6 : tso g i = 6
    · rw [if_neg (by rw [h6]; decide)]
      have he := h.1.eq hi (by omega)
      have hk : ∃ a, tkd g i = [a] := by
        by_cases h18 : 18 ≤ i
        · obtain ⟨b1, -, -⟩ := h.1.2.2.2.2.1 i h18 hi
          rw [h6] at b1
          rcases b1 with q | q | ⟨-, a, q, -⟩ | q
          · omega
          · omega
          · exact ⟨a, q⟩
          · omega
        · by_cases h17 : i = 17
          · rw [h17, h.1.2.2.2.1.2.1]; exact ⟨0, rfl⟩
          · by_cases h16 : i = 16
            · rw [h16, h.1.2.2.1.1] at h6; omega
            · rw [(h.1.2.1 i (by omega)).1] at h6
              split at h6 <;> omega
      obtain ⟨a, ha⟩ := hk
      rw [show m_Terms_kid (Int32.ofNat i) (0 : Int32) M = some (M, Int32.ofNat a) from by
        have := c_kid (j := 0) h hi (by rw [ha]; simp)
        rw [ha] at this
        exact this, cal_same]
      refine NR.here h hr (Nat.lt_trans (h.1.kids hi a (by rw [ha]; simp)) hi) ?_
      unfold notS
      rw [if_pos ((so_hd h.1 hi (Or.inr (Or.inl rfl))).mp h6), he, h6, ha]
      simp [txF]
    · rw [if_pos (by rw [show (6 : Int32) = Int32.ofNat 6 from rfl, i_eq_of (by omega) (by omega)]; exact h6)]
      obtain ⟨M1, b1, b2, b3, b4, b5, b6⟩ := c_one (x := i) h hr hG
      rw [b1]
      have htx : txF 6 ([i].map (ttx g)) = 6 :: ttx g i := by simp [txF]
      obtain ⟨M3, g', j, d1, d2, d3, d4, d5, d6, d7, d8, d9, d10, d11, -, -, -, d15⟩ := c_nodeR (s := 6) b3 b4 (hG.fc b5) (Or.inr (Or.inr (Or.inl ⟨rfl, i, rfl, h0, h6⟩))) isR15 b2 (fun k hk => by rw [List.mem_singleton.mp hk]; exact hi) (by rw [htx, List.length_cons]; omega) hU (by simp; omega)
      have d1' : m_Terms_node (6 : Int32) 15 M1 = some (M3, Int32.ofNat j) := d1
      rw [cal_some d1' d10.le.1 d10.le.2]
      refine ⟨M3, g', j, rfl, d2, d3, d4, ?_, d8, d9, b5.tr d10, d11, fun p hp => (d15 p hp).trans (by rw [b6])⟩
      rw [d5, htx]
      unfold notS
      rw [if_neg (fun q => h6 ((so_hd h.1 hi (Or.inr (Or.inl rfl))).mpr q))]
/-- star -/
theorem c_star {g : TG} {M : MS} {i : Nat} (h : TI g M) (hr : RO M) (hG : GD M) (hi : i < tU g) (hl : (ttx g i).length ≤ 900000) (hU : tU g < 131072) (hK : tKU g + 1 ≤ 500000) : NR g M (starS (ttx g i)) 1 1 (m_Terms_star (Int32.ofNat i) M) := by
  have hlt := h.2.1.lt
  have hU18 := h.1.1
  obtain ⟨-, ⟨m3, m4⟩, ⟨l4, l5, l6, l7, -⟩, -, mi⟩ := h.2.1
  obtain ⟨a3, -, -, -, a7, -, -⟩ := mi i hi
  have hso : tso g i < 8 := by
    rw [← h.1.so hi]
    exact Nat.mod_lt _ (by omega)
  have n0 := hd0 h.1 hi
  have n16 := hd16 h.1 hi
  unfold m_Terms_star
  by_cases h0 : i = 0
  · have e0 : starS (ttx g i) = [1] := by unfold starS; rw [if_pos (Or.inl (n0.mp h0))]
    rw [if_pos (by rw [h0]; decide), e0]
    exact NR.here (i := 16) h hr (by omega) h.1.t16
  · rw [if_neg (by rw [i_eq, i_of (by omega), i_0]; omega)]
    by_cases h16 : i = 16
    · have e0 : starS (ttx g i) = [1] := by unfold starS; rw [if_pos (Or.inr (n16.mp h16))]
      rw [if_neg (by rw [h16]; decide), e0]
      exact NR.here (i := 16) h hr (by omega) h.1.t16
    · have hn : ¬ (ttx g i = [0] ∨ ttx g i = [1]) := fun q => by
        rcases q with q | q
        · exact h0 (n0.mpr q)
        · exact h16 (n16.mpr q)
      rw [if_pos (by rw [i_eq, i_of (by omega), i_16]; omega), ld_of (by omega) (by omega), a3, Option.bind_some]
      by_cases h7 : tso g i = 7
      · have e0 : starS (ttx g i) = ttx g i := by unfold starS; rw [if_neg hn, if_pos ((so_hd h.1 hi (Or.inr (Or.inr rfl))).mp h7)]
        rw [if_neg (by rw [h7]; decide), e0]
        exact NR.here h hr hi rfl
      · have e0 : starS (ttx g i) = 7 :: ttx g i := by unfold starS; rw [if_neg hn, if_neg (fun q => h7 ((so_hd h.1 hi (Or.inr (Or.inr rfl))).mpr q))]
        rw [if_pos (by rw [show (7 : Int32) = Int32.ofNat 7 from rfl, i_eq_of (by omega) (by omega)]; exact h7), e0]
        obtain ⟨M1, b1, b2, b3, b4, b5, b6⟩ := c_one (x := i) h hr hG
        rw [b1]
        have htx : txF 7 ([i].map (ttx g)) = 7 :: ttx g i := by simp [txF]
        obtain ⟨M3, g', j, d1, d2, d3, d4, d5, d6, d7, d8, d9, d10, d11, -, -, -, d15⟩ := c_nodeR (s := 7) b3 b4 (hG.fc b5) (Or.inr (Or.inr (Or.inr ⟨rfl, i, rfl, h7⟩))) isR15 b2 (fun k hk => by rw [List.mem_singleton.mp hk]; exact hi) (by rw [htx, List.length_cons]; omega) hU (by simp; omega)
        have d1' : m_Terms_node (7 : Int32) 15 M1 = some (M3, Int32.ofNat j) := d1
        rw [cal_some d1' d10.le.1 d10.le.2]
        exact ⟨M3, g', j, rfl, d2, d3, d4, by rw [d5, htx], d8, d9, b5.tr d10, d11, fun p hp => (d15 p hp).trans (by rw [b6])⟩
