/-! STEP 2, the class: what a derivative may make in all; asking for kids' derivatives -/
theorem sum_perm {a b : List Nat} (h : a.Perm b) : a.sum = b.sum := by
  induction h with
  | nil => rfl
  | cons x _ ih => rw [List.sum_cons, List.sum_cons, ih]
  | swap x y l => rw [List.sum_cons, List.sum_cons, List.sum_cons, List.sum_cons]; omega
  | trans _ _ ih1 ih2 => rw [ih1, ih2]
def ctF (f : List Nat → Nat) (x : Nat) (ks : List (List Nat × Nat)) : List Nat × Nat := (x :: (ks.map Prod.fst).flatten, f (x :: (ks.map Prod.fst).flatten) + (ks.map Prod.snd).sum)
/-- f summed over all parts of a term -/
def ct (f : List Nat → Nat) (t : List Nat) : Nat := (vl (ctF f) ([], 0) t).2
theorem ct_id {f : List Nat → Nat} : ∀ t, wf t → (vl (ctF f) ([], 0) t).1 = t := by
  refine wf_ind (P := fun t => (vl (ctF f) ([], 0) t).1 = t) (fun x ps hx hp ih => ?_)
  rw [vl_mk (ctF f) _ hx hp]
  show x :: ((ps.map (vl (ctF f) ([], 0))).map Prod.fst).flatten = _
  rw [List.map_map]
  have : ps.map (Prod.fst ∘ vl (ctF f) ([], 0)) = ps := by
    conv => rhs; rw [← List.map_id ps]
    apply List.map_congr_left
    intro p hpp
    exact ih p hpp
  rw [this]
theorem ct_mk {f : List Nat → Nat} {x : Nat} {ps : List (List Nat)} (hx : ar x = ps.length) (hp : ∀ p ∈ ps, wf p) : ct f (x :: ps.flatten) = f (x :: ps.flatten) + (ps.map (ct f)).sum := by
  unfold ct
  rw [vl_mk (ctF f) _ hx hp]
  have e : ((ps.map (vl (ctF f) ([], 0))).map Prod.fst) = ps := by
    rw [List.map_map]
    conv => rhs; rw [← List.map_id ps]
    apply List.map_congr_left
    intro p hpp
    exact ct_id p (hp p hpp)
  show f (x :: ((ps.map (vl (ctF f) ([], 0))).map Prod.fst).flatten) + ((ps.map (vl (ctF f) ([], 0))).map Prod.snd).sum = _
  rw [e, List.map_map]
  rfl
/-- the same, over the kids of an id -/
theorem ct_ids {g : TG} (h : TB g) (f : List Nat → Nat) {i : Nat} (hi : i < tU g) : f (ttx g i) + ((tkd g i).map (fun k => ct f (ttx g k))).sum ≤ ct f (ttx g i) := by
  have hkids : ∀ k ∈ tkd g i, k < tU g := fun k hk2 => Nat.lt_trans (h.kids hi k hk2) hi
  have hw : ∀ p ∈ (tkd g i).map (ttx g), wf p := fun p hp => by
    obtain ⟨k, hk, rfl⟩ := List.mem_map.mp hp
    exact h.wf (hkids k hk)
  have hmap : (tkd g i).map (fun k => ct f (ttx g k)) = ((tkd g i).map (ttx g)).map (ct f) := by rw [List.map_map]; rfl
  rw [hmap]
  by_cases h18 : 18 ≤ i
  · obtain ⟨h1, h2, h3⟩ := h.2.2.2.2.1 i h18 hi
    by_cases hc : tso g i = 4 ∨ tso g i = 5
    · have hsr : SrN (tkd g i) := by
        rcases h1 with q | q | q | q
        · omega
        · exact q.2.2
        · omega
        · omega
      have hnd := h.mapnd hkids hsr
      have e : ttx g i = (tso g i + 8 * ((tkd g i).map (ttx g)).length) :: (srt ((tkd g i).map (ttx g))).flatten := by
        rw [h3]
        unfold txF
        rw [if_pos hc]
      have e2 := ct_mk (f := f) (x := tso g i + 8 * ((tkd g i).map (ttx g)).length) (ps := srt ((tkd g i).map (ttx g))) (by rw [ar_or hc, srt_len_nodup hnd]) (fun p hp => hw p (mem_srt.mp hp))
      rw [← e] at e2
      rw [e2, sum_perm ((srt_perm_of hnd).map (ct f))]
      exact Nat.le_refl _
    · have e : ttx g i = tso g i :: ((tkd g i).map (ttx g)).flatten := by
        rw [h3]
        unfold txF
        rw [if_neg hc]
      have e2 := ct_mk (f := f) (x := tso g i) (ps := (tkd g i).map (ttx g)) (by rw [h1.ar hc, List.length_map]) hw
      rw [← e] at e2
      rw [e2]
      exact Nat.le_refl _
  · by_cases h17 : i = 17
    · subst h17
      have e : ttx g 17 = 6 :: ((tkd g 17).map (ttx g)).flatten := by rw [h.t17, h.2.2.2.1.2.1, List.map_cons, List.map_nil, h.t0]; rfl
      have e2 := ct_mk (f := f) (x := 6) (ps := (tkd g 17).map (ttx g)) (by rw [List.length_map, h.2.2.2.1.2.1]; rfl) hw
      rw [← e] at e2
      rw [e2]
      exact Nat.le_refl _
    · have hk0 : tkd g i = [] := by
        by_cases h16 : i = 16
        · rw [h16]; exact h.2.2.1.2.1
        · exact (h.2.1 i (by omega)).2.1
      rw [hk0]
      obtain ⟨x, ps, e1, hx, hp⟩ := wf_split (h.wf hi)
      rw [e1, ct_mk hx hp]
      simp
theorem kid_sum {g : TG} (h : TB g) {i : Nat} (hi : i < tU g) : ((tkd g i).map (fun k => (ttx g k).length)).sum + 1 ≤ (ttx g i).length := by
  have hl : ∀ t, wf t → ct (fun _ => 1) t = t.length := by
    refine wf_ind (P := fun t => ct (fun _ => 1) t = t.length) (fun x ps hx hp ih => ?_)
    rw [ct_mk hx hp, List.length_cons, flat_sum, Nat.add_comm]
    congr 1
    congr 1
    exact List.map_congr_left ih
  have h1 := ct_ids h (fun _ => 1) hi
  rw [hl _ (h.wf hi)] at h1
  have h2 : (tkd g i).map (fun k => ct (fun _ => 1) (ttx g k)) = (tkd g i).map (fun k => (ttx g k).length) := List.map_congr_left (fun k hk => hl _ (h.wf (Nat.lt_trans (h.kids hi k hk) hi)))
  rw [h2] at h1
  omega
/-! asking for the kids' derivatives -/
/-- the kids whose derivatives are needed -/
def ndK (g : TG) (i : Nat) : List Nat := if tso g i = 3 ∧ NS (ttx g ((tkd g i).getD 0 0)) = false then (tkd g i).take 1 else tkd g i
def unK (M : MS) (c : Nat) (l : List Nat) : List Nat := l.filter (fun k => decide (gA M 12 (4 * k + c) = -1))
theorem c_asks59 {g : TG} {M0 : MS} {i c n : Nat} {L : List Nat} {l3 : Int32} (hI0 : TI g M0) (hi : i < tU g) (hc : c < 4) (hn : n ≤ (tkd g i).length) (hnl : (tkd g i).length ≤ 300) (hL : L.length ≤ 10000) : ∀ (v u : List Nat) (M : MS) (F : Nat), (tkd g i).take n = u ++ v → TI g M → GD M → RW M 19 20 (L ++ unK M0 c u) → FC [20] [(19, 1)] M0 M → gL M 20 ≤ max (gL M0 20) 30000 → v.length < F →
    ∃ M1, fx (fun (k : Int32 × Int32 × Int32 × Int32 × Int32 × MS → Option (MS × Int32)) (i : Int32 × Int32 × Int32 × Int32 × Int32 × MS) => m_Terms_asksForMore_59b k i.1 i.2.1 i.2.2.1 i.2.2.2.1 i.2.2.2.2.1 i.2.2.2.2.2) F (Int32.ofNat i, Int32.ofNat c, l3, Int32.ofNat n, Int32.ofNat u.length, M) = m_Terms_asksForMore_105 l3 M1 ∧ TI g M1 ∧ RW M1 19 20 (L ++ unK M0 c ((tkd g i).take n)) ∧ FC [20] [(19, 1)] M0 M1 ∧ gL M1 20 ≤ max (gL M0 20) 30000 := by
  have htl : ((tkd g i).take n).length = n := by rw [List.length_take]; omega
  intro v
  induction v with
  | nil =>
    intro u M F e hI hG hW hf hg hF
    rw [List.append_nil] at e
    cases F with
    | zero => simp at hF
    | succ F =>
      refine ⟨M, ?_, hI, by rw [e]; exact hW, hf, hg⟩
      have gen : ∀ k, m_Terms_asksForMore_59b k (Int32.ofNat i) (Int32.ofNat c) l3 (Int32.ofNat n) (Int32.ofNat u.length) M = m_Terms_asksForMore_105 l3 M := by
        intro k
        unfold m_Terms_asksForMore_59b
        rw [if_pos (by rw [← e, htl]; exact Int32.le_refl _)]
      exact gen _
  | cons x v ih =>
    intro u M F e hI hG hW hf hg hF
    rw [List.length_cons] at hF
    have hol : n = u.length + (v.length + 1) := by rw [← htl, e, List.length_append, List.length_cons]
    have gx : (tkd g i).getD u.length 0 = x := by
      have h1 : ((tkd g i).take n)[u.length]? = some x := by rw [e]; simp
      rw [List.getElem?_take] at h1
      rw [if_pos (by omega)] at h1
      rw [List.getD_eq_getElem?_getD, h1]
      rfl
    have hxm : x ∈ tkd g i := List.mem_of_mem_take (by rw [e]; simp : x ∈ (tkd g i).take n)
    have hxU : x < tU g := Nat.lt_trans (hI.1.kids hi x hxm) hi
    have hlt := hI.2.1.lt
    obtain ⟨-, ⟨m3, m4⟩, ⟨l4, l5, l6, l7, l8, l9, l10, l11, l12, l14⟩, -, -⟩ := hI.2.1
    have g12 : gA M 12 (4 * x + c) = gA M0 12 (4 * x + c) := by rw [hf.ga (by decide)]
    have hld : ldA M 12 (Int32.ofNat x * 4 + Int32.ofNat c) = some (gA M0 12 (4 * x + c)) := by
      rw [show Int32.ofNat x * 4 = Int32.ofNat (4 * x) from by rw [Nat.mul_comm]; exact i_mul_of _ 4, i_add_of, ld_of (by omega) (by omega), g12]
    have hul : (unK M0 c u).length ≤ u.length := List.length_filter_le _ _
    have hkid := c_kid (j := u.length) hI hi (by omega)
    rw [gx] at hkid
    cases F with
    | zero => omega
    | succ F =>
      by_cases hk : gA M0 12 (4 * x + c) = -1
      · have eu : unK M0 c (u ++ [x]) = unK M0 c u ++ [x] := by
          unfold unK
          rw [List.filter_append, List.filter_cons_of_pos (by simpa using hk), List.filter_nil]
        obtain ⟨M2, a1, a2, a3, a4⟩ := c_add (x := x) isR19 hW hG (by rw [List.length_append]; omega)
        rw [List.length_append] at a4
        obtain ⟨M1, b1, b2, b3, b4, b5⟩ := ih (u ++ [x]) M2 F (by rw [e, List.append_assoc]; rfl) (hI.row isR19 a3) (hG.fc a3) (by rw [eu, ← List.append_assoc]; exact a2) (hf.tr a3) (by omega) (by omega)
        refine ⟨M1, ?_, b2, b3, b4, b5⟩
        refine Eq.trans ?_ b1
        have gen : ∀ k, m_Terms_asksForMore_59b k (Int32.ofNat i) (Int32.ofNat c) l3 (Int32.ofNat n) (Int32.ofNat u.length) M = k (Int32.ofNat i, Int32.ofNat c, l3, Int32.ofNat n, Int32.ofNat (u ++ [x]).length, M2) := by
          intro k
          unfold m_Terms_asksForMore_59b
          rw [if_neg (by rw [i_le_of (by omega) (by omega)]; omega), hkid, cal_same, hld, Option.bind_some, if_neg (fun q => q hk), cal_some a1 a3.le.1 a3.le.2, i_inc, List.length_append, List.length_singleton]
        exact gen _
      · have eu : unK M0 c (u ++ [x]) = unK M0 c u := by
          unfold unK
          rw [List.filter_append, List.filter_cons_of_neg (by simpa using hk), List.filter_nil, List.append_nil]
        obtain ⟨M1, b1, b2, b3, b4, b5⟩ := ih (u ++ [x]) M F (by rw [e, List.append_assoc]; rfl) hI hG (by rw [eu]; exact hW) hf hg (by omega)
        refine ⟨M1, ?_, b2, b3, b4, b5⟩
        refine Eq.trans ?_ b1
        have gen : ∀ k, m_Terms_asksForMore_59b k (Int32.ofNat i) (Int32.ofNat c) l3 (Int32.ofNat n) (Int32.ofNat u.length) M = k (Int32.ofNat i, Int32.ofNat c, l3, Int32.ofNat n, Int32.ofNat (u ++ [x]).length, M) := by
          intro k
          unfold m_Terms_asksForMore_59b
          rw [if_neg (by rw [i_le_of (by omega) (by omega)]; omega), hkid, cal_same, hld, Option.bind_some, if_pos hk, i_inc, List.length_append, List.length_singleton]
        exact gen _
/-- asksForMore: the needed kids that aren't derived yet come on the pile -/
theorem c_asks {g : TG} {M : MS} {i c : Nat} {L : List Nat} (hI : TI g M) (hG : GD M) (hi : i < tU g) (hc : c < 4) (hnl : (tkd g i).length ≤ 300) (hL : L.length ≤ 10000) (hW : RW M 19 20 L) : ∃ M1, m_Terms_asksForMore (Int32.ofNat i) (Int32.ofNat c) M = some (M1, b01 (decide (unK M c (ndK g i) ≠ []))) ∧ TI g M1 ∧ RW M1 19 20 (L ++ unK M c (ndK g i)) ∧ FC [20] [(19, 1)] M M1 ∧ gL M1 20 ≤ max (gL M 20) 30000 := by
  have hlt := hI.2.1.lt
  obtain ⟨-, ⟨m3, m4⟩, ⟨l4, l5, l6, l7, l8, l9, l10, l11, l12, l14⟩, -, mi⟩ := hI.2.1
  obtain ⟨a3, -, -, -, a7, -, -⟩ := mi i hi
  have hso8 : tso g i < 8 := by
    rw [← hI.1.so hi]
    exact Nat.mod_lt _ (by omega)
  have hwl := hW.2.2.2.1
  have fin : ∀ n, n ≤ (tkd g i).length → (tkd g i).take n = ndK g i → ∃ M1, m_Terms_asksForMore_59 (Int32.ofNat i, Int32.ofNat c, Int32.ofNat L.length, Int32.ofNat n, (0 : Int32), M) = some (M1, b01 (decide (unK M c (ndK g i) ≠ []))) ∧ TI g M1 ∧ RW M1 19 20 (L ++ unK M c (ndK g i)) ∧ FC [20] [(19, 1)] M M1 ∧ gL M1 20 ≤ max (gL M 20) 30000 := by
    intro n hn hnd
    obtain ⟨M1, b1, b2, b3, b4, b5⟩ := c_asks59 (l3 := Int32.ofNat L.length) hI hi hc hn hnl hL ((tkd g i).take n) [] M FU rfl hI hG (by unfold unK; rw [List.filter_nil, List.append_nil]; exact hW) FC.rf (by omega) (by unfold FU; rw [List.length_take]; omega)
    rw [hnd] at b3
    have hul : (unK M c (ndK g i)).length ≤ (ndK g i).length := List.length_filter_le _ _
    have hndl : (ndK g i).length ≤ (tkd g i).length := by rw [← hnd, List.length_take]; omega
    refine ⟨M1, b1.trans ?_, b2, b3, b4, b5⟩
    unfold m_Terms_asksForMore_105
    rw [c_size isR19 b3, cal_same, List.length_append]
    cases hu : unK M c (ndK g i) with
    | nil =>
      rw [if_pos (by show Int32.ofNat (L.length + 0) ≤ Int32.ofNat L.length; exact Int32.le_refl _)]
      rfl
    | cons y r =>
      rw [hu, List.length_cons] at hul
      rw [if_neg (by show ¬ Int32.ofNat (L.length + (y :: r).length) ≤ Int32.ofNat L.length; rw [List.length_cons, i_le_of (by omega) (by omega)]; omega)]
      rfl
  unfold m_Terms_asksForMore m_Terms_asksForMore_36 m_Terms_asksForMore_37
  rw [c_size isR19 hW, cal_same, ld_of (by show _ < gL M 3; omega) (by omega), a3, Option.bind_some]
  by_cases h3 : tso g i = 3
  · obtain ⟨p, q, e1, e2, e3, e4, e5, e6⟩ := hI.1.cat2 hi h3
    have hg0 : (tkd g i).getD 0 0 = p := by rw [e1]; rfl
    have hk0 := c_kid (j := 0) hI hi (by rw [e1]; simp)
    rw [hg0] at hk0
    have hk0' : m_Terms_kid (Int32.ofNat i) (0 : Int32) M = some (M, Int32.ofNat p) := hk0
    have hnp := (mi p (by omega)).2.2.1
    rw [if_neg (by rw [h3]; decide), hk0', cal_same, ld_of (by show _ < gL M 5; omega) (by omega), hnp, Option.bind_some]
    cases hns : NS (ttx g p) with
    | true =>
      rw [if_pos (by decide), if_pos rfl, ld_of (by show _ < gL M 7; omega) (by omega), a7, Option.bind_some]
      refine fin (tkd g i).length (Nat.le_refl _) ?_
      unfold ndK
      rw [List.take_length, if_neg (by rw [hg0, hns]; simp)]
    | false =>
      rw [if_neg (by decide), if_neg (by decide)]
      refine fin 1 (by rw [e1]; simp) ?_
      unfold ndK
      rw [if_pos ⟨h3, by rw [hg0]; exact hns⟩]
  · rw [if_pos (by rw [show (3 : Int32) = Int32.ofNat 3 from rfl, i_eq_of (by omega) (by omega)]; exact h3), if_pos rfl, ld_of (by show _ < gL M 7; omega) (by omega), a7, Option.bind_some]
    refine fin (tkd g i).length (Nat.le_refl _) ?_
    unfold ndK
    rw [List.take_length, if_neg (fun q => h3 q.1)]
