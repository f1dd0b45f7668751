/-! STEP 2, the class: tidy: all that are kept move -/
def gmv (g : TG) (s : Nat) (own : List Nat) (v : Nat) : TG := (tU g + 1, updN (tso g) (tU g) s, updN (tkd g) (tU g) own, updN (ttx g) (tU g) (txF s (own.map (ttx g))), updN (tkf g) (tU g) (tKU g), tKU g + own.length, updN (ttg g) (tU g) v)
theorem TE.mv (g : TG) (s : Nat) (own : List Nat) (v : Nat) : TE g (gmv g s own v) := ⟨Nat.le_succ _, Nat.le_add_right _ _, fun i hi => ⟨updN_ne _ _ (by omega), updN_ne _ _ (by omega), updN_ne _ _ (by omega), updN_ne _ _ (by omega), updN_ne _ _ (by omega)⟩⟩
theorem TB.mv {g : TG} (h : TB g) {s : Nat} {own : List Nat} (v : Nat) (hs : shp g s own) (ho : ∀ k ∈ own, k < tU g) (hl : (txF s (own.map (ttx g))).length ≤ 1000000) (hn : ∀ i, 18 ≤ i → i < tU g → ¬ (tso g i = s ∧ tkd g i = own)) : TB (gmv g s own v) := h.add hs ho hl hn
def kl (K : Nat → Bool) (t : Nat) : List Nat := (List.range t).filter (fun j => decide (18 ≤ j) && K j)
theorem kl_succ {K : Nat → Bool} {t : Nat} (h : 18 ≤ t) : kl K (t + 1) = kl K t ++ (if K t = true then [t] else []) := by
  unfold kl
  rw [List.range_succ, List.filter_append]
  congr 1
  rw [List.filter_cons, decide_eq_true h, Bool.true_and]
  cases K t <;> rfl
theorem rk_kl {K : Nat → Bool} (h18 : rk K 18 = 18) : ∀ d, rk K (18 + d) = 18 + (kl K (18 + d)).length := by
  intro d
  induction d with
  | zero =>
    have : kl K (18 + 0) = [] := by
      unfold kl
      refine List.filter_eq_nil_iff.mpr (fun a ha => ?_)
      have := List.mem_range.mp ha
      rw [decide_eq_false (by omega)]
      simp
    rw [this]
    exact h18
  | succ d ih =>
    rw [← Nat.add_assoc, kl_succ (by omega), List.length_append]
    show rk K (18 + d) + _ = _
    rw [ih]
    split <;> simp <;> omega
theorem kl_nd (K : Nat → Bool) (t : Nat) : (kl K t).Nodup := List.Pairwise.filter _ List.nodup_range
theorem mem_kl {K : Nat → Bool} {t j : Nat} : j ∈ kl K t ↔ j < t ∧ 18 ≤ j ∧ K j = true := by
  unfold kl
  rw [List.mem_filter, List.mem_range]
  simp
/-- what is kept has got its number; what it needs is kept -/
def TC (g : TG) (K : Nat → Bool) (M0 : MS) : Prop := TI g M0 ∧ (∀ p, p < tU g → gA M0 11 p = if K p = true then Int32.ofNat (rk K p) else -1) ∧ (∀ i, i < 18 → K i = true) ∧ (∀ i, 18 ≤ i → i < tU g → K i = true → ∀ k ∈ tkd g i, K k = true) ∧ (∀ i, i ≤ 18 → rk K i = i)
def RV : List Nat := [3, 4, 5, 6, 7, 8, 9, 10, 12, 13, 14]
/-- the kept ones below t have moved -/
def MV (g : TG) (K : Nat → Bool) (M0 : MS) (t : Nat) (g' : TG) (M : MS) : Prop := (TB g' ∧ tU g' = rk K t ∧ (∀ j, t ≤ j → j < tU g → tKU g' ≤ tkf g j) ∧ tKU g' ≤ tKU g ∧ tKU g' = 1 + ((kl K t).map (fun j => (tkd g j).length)).sum) ∧
  ((∀ i, i < t → K i = true → tso g' (rk K i) = tso g i ∧ ttx g' (rk K i) = ttx g i ∧ ttg g' (rk K i) = ttg g i) ∧ (∀ m, m < tU g' → ∃ i, i < t ∧ K i = true ∧ m = rk K i)) ∧
  (TM g' M ∧ TH g' M ∧ TT g' M ∧ (∀ m c, m < tU g' → c < 4 → gA M 12 (4 * m + c) = -1 ∨ ∃ d, d < tU g ∧ K d = true ∧ gA M 12 (4 * m + c) = Int32.ofNat (rk K d) ∧ ttx g d = DS c (ttx g' m))) ∧
  (Fr RV [(2, 16), (2, 17)] M0 M ∧ (∀ a, a = 3 ∨ a = 4 ∨ a = 5 ∨ a = 6 ∨ a = 7 ∨ a = 10 → ∀ p, t ≤ p → gA M a p = gA M0 a p) ∧ (∀ p, 4 * t ≤ p → gA M 12 p = gA M0 12 p) ∧ (∀ p, tKU g' ≤ p → gA M 13 p = gA M0 13 p))
theorem MV.skip {g g' : TG} {K : Nat → Bool} {M0 M : MS} {t : Nat} (h : MV g K M0 t g' M) (h18 : 18 ≤ t) (hK : ¬ K t = true) : MV g K M0 (t + 1) g' M := by
  obtain ⟨⟨a1, a2, a3, a4, a5⟩, ⟨b1, b2⟩, hc', ⟨d1, d2, d3, d4⟩⟩ := h
  refine ⟨⟨a1, ?_, fun j hj => a3 j (by omega), a4, ?_⟩, ⟨fun i hi hk => b1 i ?_ hk, fun m hm => ?_⟩, hc', ⟨d1, fun a ha p hp => d2 a ha p (by omega), fun p hp => d3 p (by omega), d4⟩⟩
  · rw [a2]
    show _ = rk K t + _
    rw [if_neg hK]
    rfl
  · rw [kl_succ h18, if_neg hK, List.append_nil]
    exact a5
  · have : i ≠ t := fun q => hK (by rw [← q]; exact hk)
    omega
  · obtain ⟨i, q1, q2⟩ := b2 m hm
    exact ⟨i, by omega, q2⟩
theorem MV.step {g g' : TG} {K : Nat → Bool} {M0 M : MS} {t : Nat} (hC : TC g K M0) (h : MV g K M0 t g' M) (h18 : 18 ≤ t) (ht : t < tU g) (hK : K t = true) :
    ∃ M1 g'', m_Terms_move (Int32.ofNat t) (Int32.ofNat (tU g')) M = some (M1, ()) ∧ Fr RV [(2, 17)] M M1 ∧ MV g K M0 (t + 1) g'' (sI M1 2 16 (Int32.ofNat (tU g' + 1))) := by
  obtain ⟨hI, hN, hK18, hKk, h18r⟩ := hC
  obtain ⟨⟨hB', hU', hkf, hKU', hsum⟩, ⟨b1, b2⟩, ⟨hM', hH', hT', hA'⟩, ⟨d1, d2, d3, d4⟩⟩ := h
  have hB := hI.1
  have hlt := hI.2.1.lt
  have hrk := rk_le K t
  have ln := d1.ln
  obtain ⟨-, ⟨m3, m4⟩, ⟨l4, l5, l6, l7, l8, l9, l10, l11, l12, l14⟩, ⟨k1, k2, k3⟩, mi⟩ := hI.2.1
  have hrm := rooms_le m4
  obtain ⟨x3, x4, x5, x6, x7, x8, x9⟩ := mi t ht
  obtain ⟨hsh, hkids, htx⟩ := hB.2.2.2.2.1 t h18 ht
  have hkK := hKk t h18 ht hK
  have hKUt := hkf t (Nat.le_refl _) ht
  generalize hown : (tkd g t).map (rk K) = own
  have hol : own.length = (tkd g t).length := by rw [← hown, List.length_map]
  have hget : ∀ j, j < (tkd g t).length → own.getD j 0 = rk K ((tkd g t).getD j 0) ∧ (tkd g t).getD j 0 ∈ tkd g t := fun j hj => by
    rw [← hown, List.getD_eq_getElem?_getD, List.getD_eq_getElem?_getD, List.getElem?_map, List.getElem?_eq_getElem hj]
    exact ⟨rfl, List.getElem_mem hj⟩
  have ho : ∀ k ∈ own, k < tU g' := fun k hk => by
    rw [← hown] at hk
    obtain ⟨a, ha, rfl⟩ := List.mem_map.mp hk
    rw [hU']
    exact rk_lt (hkids a ha) (hkK a ha)
  have hmap : own.map (ttx g') = (tkd g t).map (ttx g) := by
    rw [← hown, List.map_map]
    exact List.map_congr_left (fun a ha => (b1 a (hkids a ha) (hkK a ha)).2.1)
  have hsh' : shp g' (tso g t) own := by
    rcases hsh with ⟨q1, a, b, q2, q3⟩ | ⟨q1, q2, q3⟩ | ⟨q1, a, q2, q3, q4⟩ | ⟨q1, a, q2, q3⟩
    · have ha : a ∈ tkd g t := by rw [q2]; simp
      refine Or.inl ⟨q1, rk K a, rk K b, by rw [← hown, q2]; rfl, ?_⟩
      rw [(b1 a (hkids a ha) (hkK a ha)).1]
      exact q3
    · refine Or.inr (Or.inl ⟨q1, by omega, ?_⟩)
      rw [← hown]
      refine List.pairwise_map.mpr (List.Pairwise.imp_of_mem (fun {x y} hx hy hxy => ?_) q3)
      exact rk_lt hxy (hkK x hx)
    · have ha : a ∈ tkd g t := by rw [q2]; simp
      refine Or.inr (Or.inr (Or.inl ⟨q1, rk K a, by rw [← hown, q2]; rfl, fun e => q3 ?_, ?_⟩))
      · have h0 := h18r 0 (by omega)
        exact rk_inj (hkK a ha) (hK18 0 (by omega)) (by omega)
      · rw [(b1 a (hkids a ha) (hkK a ha)).1]
        exact q4
    · have ha : a ∈ tkd g t := by rw [q2]; simp
      refine Or.inr (Or.inr (Or.inr ⟨q1, rk K a, by rw [← hown, q2]; rfl, ?_⟩))
      rw [(b1 a (hkids a ha) (hkK a ha)).1]
      exact q3
  have hnew : txF (tso g t) (own.map (ttx g')) = ttx g t := by rw [hmap]; exact htx.symm
  have hn : ∀ i, 18 ≤ i → i < tU g' → ¬ (tso g' i = tso g t ∧ tkd g' i = own) := fun i hi1 hi2 ⟨q1, q2⟩ => by
    have e := (hB'.2.2.2.2.1 i hi1 hi2).2.2
    rw [q1, q2, hnew] at e
    obtain ⟨j, j1, j2, j3⟩ := b2 i hi2
    rw [j3, (b1 j j1 j2).2.1] at e
    have := hB.inj (by omega) ht e
    omega
  have hB'' := hB'.mv (ttg g t) hsh' ho (by rw [hnew]; exact hB.sz ht) hn
  have hE := TE.mv g' (tso g t) own (ttg g t)
  have hw : ∀ c, ∃ w : Int32, c < 4 → ((gA M0 12 (4 * t + c) = -1 ∧ w = -1) ∨ ∃ d, d < tU g ∧ gA M0 12 (4 * t + c) = Int32.ofNat d ∧ gA M0 11 d = w ∧ ttx g d = DS c (ttx g t)) := fun c => by
    by_cases hc4 : c < 4
    · rcases hI.2.2.2.1 t c ht hc4 with q | ⟨d, q1, q2, q3⟩
      · exact ⟨-1, fun _ => Or.inl ⟨q, rfl⟩⟩
      · exact ⟨gA M0 11 d, fun _ => Or.inr ⟨d, q1, q2, rfl, q3⟩⟩
    · exact ⟨0, fun q => absurd q hc4⟩
  obtain ⟨w, hw⟩ := Classical.axiomOfChoice hw
  have k12 : ∀ c, gA M 12 (4 * t + c) = gA M0 12 (4 * t + c) := fun c => d3 _ (by omega)
  have k11 : gA M 11 = gA M0 11 := d1.ga (by decide)
  have hgM : ∀ a, gL M a = gL M0 a := fun a => by rw [ln]
  obtain ⟨⟨n1, n2⟩, ⟨n3, n4⟩, ⟨o4, o5, o6, o7, o8, o9, o10, o11, o12, o14⟩, ⟨p1, p2, p3⟩, ni⟩ := hM'
  obtain ⟨M1, c1, c2, c3, c13, c12, c14, c9, c8, c6, ca⟩ := c_move (M := M) (t := t) (m := tU g') (KU := tKU g') (kf := tkf g t) (s := tso g t) (L := gL M0 3) (kd := tkd g t) (own := own) (w := w) hol hrm.2 ⟨hgM 3, by rw [hgM]; exact l4, by rw [hgM]; exact l5, by rw [hgM]; exact l6, by rw [hgM]; exact l7, by rw [hgM]; exact l8, by rw [hgM]; exact l9, by rw [hgM]; exact l10, by rw [hgM]; exact l11, by rw [hgM]; exact l12, by rw [hgM]; exact l14⟩ (by omega) (by omega) (by rw [hgM]; omega) (by rw [hgM]; omega) hKUt n2 (by rw [d2 7 (by decide) t (Nat.le_refl _)]; exact x7) (by rw [d2 6 (by decide) t (Nat.le_refl _)]; exact x6) (by rw [d2 3 (by decide) t (Nat.le_refl _)]; exact x3) (fun j hj => by rw [d4 _ (by omega)]; exact x9 j hj) (fun j hj => by
      obtain ⟨g1, g2⟩ := hget j hj
      have := hkids _ g2
      refine ⟨by omega, ?_⟩
      rw [k11, hN _ (by omega), if_pos (hkK _ g2), g1]) (fun c hc4 => by
      rw [k12, k11]
      rcases hw c hc4 with q | ⟨d, q1, q2, q3, -⟩
      · exact Or.inl q
      · exact Or.inr ⟨d, by omega, q2, q3⟩)
  have hlM1 : ∀ a, gL M1 a = gL M a := fun a => by rw [c2.ln]
  have ca' : ∀ a, a = 3 ∨ a = 4 ∨ a = 5 ∨ a = 7 ∨ a = 10 → ∀ p, gA M1 a p = if p = tU g' then gA M0 a t else gA M a p := fun a ha p => by
    rw [ca a ha p, d2 a (by omega) t (Nat.le_refl _)]
  have ekU : tKU (gmv g' (tso g t) own (ttg g t)) = tKU g' + own.length := rfl
  have e1 : tso (gmv g' (tso g t) own (ttg g t)) (tU g') = tso g t := updN_eq _ _ _
  have e2 : tkd (gmv g' (tso g t) own (ttg g t)) (tU g') = own := updN_eq _ _ _
  have e3 : ttx (gmv g' (tso g t) own (ttg g t)) (tU g') = ttx g t := (updN_eq _ _ _).trans hnew
  have e4 : tkf (gmv g' (tso g t) own (ttg g t)) (tU g') = tKU g' := updN_eq _ _ _
  have e5 : ttg (gmv g' (tso g t) own (ttg g t)) (tU g') = ttg g t := updN_eq _ _ _
  refine ⟨M1, gmv g' (tso g t) own (ttg g t), c1, c2, ⟨hB'', ?_, fun j hj1 hj2 => ?_, ?_, ?_⟩, ⟨fun i hi hki => ?_, fun m hm => ?_⟩, ⟨⟨⟨?_, ?_⟩, ⟨?_, ?_⟩, ?_, ⟨?_, ?_, ?_⟩, fun i hi => ?_⟩, ⟨fun i hi18 hi => ?_, fun b hb => ?_⟩, fun i hi => ?_, fun m c hm hc4 => ?_⟩, ⟨?_, fun a ha p hp => ?_, fun p hp => ?_, fun p hp => ?_⟩⟩
  · show tU g' + 1 = rk K t + _
    rw [hU', if_pos hK]
  · rw [ekU]
    have := hB.2.2.2.2.2.2.2.2.2 t j (by omega) (by omega) hj2
    omega
  · rw [ekU]
    have := hB.2.2.2.2.2.2.2.2.1 t (by omega) ht
    omega
  · rw [ekU, kl_succ h18, if_pos hK, List.map_append, List.sum_append, hsum, hol]
    simp
    omega
  · by_cases hit : i = t
    · subst hit
      rw [← hU', e1, e3, e5]
      exact ⟨rfl, rfl, rfl⟩
    · obtain ⟨z1, z2, z3, -, z5⟩ := hE.2.2 (rk K i) (by rw [hU']; exact rk_lt (by omega) hki)
      obtain ⟨y1, y2, y3⟩ := b1 i (by omega) hki
      exact ⟨z1.trans y1, z3.trans y2, z5.trans y3⟩
  · have hm : m < tU g' + 1 := hm
    by_cases hmt : m = tU g'
    · exact ⟨t, by omega, hK, by rw [hmt, hU']⟩
    · obtain ⟨i, q1, q2⟩ := b2 m (by omega)
      exact ⟨i, by omega, q2⟩
  · rw [gI_sI, if_pos ⟨rfl, rfl⟩]
    rfl
  · rw [gI_sI, if_neg (by omega), ekU]
    exact c3
  · show tU g' + 1 ≤ gL M1 3
    rw [hlM1, hgM]
    omega
  · show gL M1 3 ∈ rooms
    rw [hlM1]
    exact n4
  · simp only [gL_sI, hlM1]
    exact ⟨o4, o5, o6, o7, o8, o9, o10, o11, o12, o14⟩
  · rw [ekU, gL_sI, hlM1, hgM]
    omega
  · rw [gL_sI, hlM1]; exact p2
  · rw [gL_sI, hlM1]; exact p3
  · have hi : i < tU g' + 1 := hi
    simp only [gA_sI]
    by_cases hiU : i = tU g'
    · subst hiU
      rw [e1, e2, e3, e4, ekU, ca' 3 (by decide), ca' 4 (by decide), ca' 5 (by decide), ca' 7 (by decide), c6, if_pos rfl, if_pos rfl, if_pos rfl, if_pos rfl, if_pos rfl]
      refine ⟨x3, x4, x5, rfl, by rw [hol]; exact x7, Nat.le_refl _, fun j hj => ?_⟩
      rw [c13, if_pos (by omega), Nat.add_sub_cancel_left]
    · obtain ⟨z1, z2, z3, z4, -⟩ := hE.2.2 i (by omega)
      obtain ⟨y3, y4, y5, y6, y7, y8, y9⟩ := ni i (by omega)
      rw [z1, z2, z3, z4, ekU, ca' 3 (by decide), ca' 4 (by decide), ca' 5 (by decide), ca' 7 (by decide), c6, if_neg hiU, if_neg hiU, if_neg hiU, if_neg hiU, if_neg hiU]
      refine ⟨y3, y4, y5, y6, y7, by omega, fun j hj => ?_⟩
      rw [c13, if_neg (by omega)]
      exact y9 j hj
  · have hi : i < tU g' + 1 := hi
    rw [gA_sI, c8]
    by_cases hiU : i = tU g'
    · subst hiU
      rw [if_pos rfl, e1, e2]
    · obtain ⟨z1, z2, -⟩ := hE.2.2 i (by omega)
      rw [if_neg hiU, z1, z2]
      exact hH'.1 i hi18 (by omega)
  · simp only [gA_sI]
    obtain ⟨l, q1, q2, q3, q4⟩ := hH'.2 b hb
    have k9 : ∀ i ∈ l, gA (sI M1 2 16 (Int32.ofNat (tU g' + 1))) 9 i = gA M 9 i := fun i hi => by
      have := q3 i hi
      rw [gA_sI, c9, if_neg (by omega)]
    by_cases hbb : b = bk (hc (tso g t) own)
    · refine ⟨tU g' :: l, ⟨?_, ?_⟩, List.nodup_cons.mpr ⟨fun hm => by have := q3 _ hm; omega, q2⟩, fun i hi => ?_, fun i hi18 hi hbk2 => ?_⟩
      · rw [c14, if_pos hbb]
      · rw [gA_sI, c9, if_pos rfl, ← hbb]
        exact cH_keep k9 q1
      · show 18 ≤ i ∧ i < tU g' + 1
        rcases List.mem_cons.mp hi with rfl | hi
        · have := hB'.1; omega
        · have := q3 i hi; omega
      · have hi : i < tU g' + 1 := hi
        by_cases hiU : i = tU g'
        · rw [hiU]; exact List.mem_cons_self
        · rw [c8, if_neg hiU] at hbk2
          exact List.mem_cons_of_mem _ (q4 i hi18 (by omega) hbk2)
    · refine ⟨l, ?_, q2, fun i hi => ?_, fun i hi18 hi hbk2 => ?_⟩
      · rw [c14, if_neg hbb]
        exact cH_keep k9 q1
      · show 18 ≤ i ∧ i < tU g' + 1
        have := q3 i hi; omega
      · have hi : i < tU g' + 1 := hi
        rw [c8] at hbk2
        by_cases hiU : i = tU g'
        · rw [if_pos hiU] at hbk2
          exact absurd hbk2.symm hbb
        · rw [if_neg hiU] at hbk2
          exact q4 i hi18 (by omega) hbk2
  · have hi : i < tU g' + 1 := hi
    rw [gA_sI, ca' 10 (by decide)]
    by_cases hiU : i = tU g'
    · rw [if_pos hiU, hiU, e5]
      exact hI.2.2.2.2 t ht
    · rw [if_neg hiU, (hE.2.2 i (by omega)).2.2.2.2]
      exact hT' i (by omega)
  · have hm : m < tU g' + 1 := hm
    rw [gA_sI, c12]
    by_cases hmU : m = tU g'
    · subst hmU
      rw [if_pos (by omega), Nat.add_sub_cancel_left, e3]
      rcases hw c hc4 with ⟨-, q⟩ | ⟨d, q1, q2, q3, q4⟩
      · exact Or.inl q
      · rw [hN d q1] at q3
        by_cases hKd : K d = true
        · rw [if_pos hKd] at q3
          exact Or.inr ⟨d, q1, hKd, q3.symm, q4⟩
        · rw [if_neg hKd] at q3
          exact Or.inl q3.symm
    · rw [if_neg (by omega), hE.tx (by omega)]
      exact hA' m c (by omega) hc4
  · exact d1.tr ((c2.mono (fun _ h => h) (by decide)).tr (Fr.stI (by decide)))
  · rw [gA_sI]
    rcases ha with rfl | rfl | rfl | rfl | rfl | rfl
    · rw [ca 3 (by decide), if_neg (by omega)]; exact d2 3 (by decide) p (by omega)
    · rw [ca 4 (by decide), if_neg (by omega)]; exact d2 4 (by decide) p (by omega)
    · rw [ca 5 (by decide), if_neg (by omega)]; exact d2 5 (by decide) p (by omega)
    · rw [c6, if_neg (by omega)]; exact d2 6 (by decide) p (by omega)
    · rw [ca 7 (by decide), if_neg (by omega)]; exact d2 7 (by decide) p (by omega)
    · rw [ca 10 (by decide), if_neg (by omega)]; exact d2 10 (by decide) p (by omega)
  · rw [gA_sI, c12, if_neg (by omega)]
    exact d3 p (by omega)
  · rw [ekU] at hp
    rw [gA_sI, c13, if_neg (by omega)]
    exact d4 p (by omega)
/-- the derivative of one of the first terms is one of them -/
theorem TB.first {g : TG} (h : TB g) {i c d : Nat} (hi : i < 18) (hd' : d < tU g) (e : ttx g d = DS c (ttx g i)) : d < 18 := by
  have hU := h.1
  have hc3 : DS c (ttx g i) = [0] ∨ DS c (ttx g i) = [1] ∨ DS c (ttx g i) = [6, 0] := by
    by_cases h17 : i = 17
    · rw [h17, h.t17, DS_not (a := [0]) wf_0 rfl, DS_leaf (by omega)]
      right; right; rfl
    · by_cases h16 : i = 16
      · rw [h16, h.t16, DS_leaf (by omega), if_neg (by omega)]
        left; rfl
      · rw [(h.2.1 i (by omega)).2.2]
        unfold ltT
        by_cases h0 : i = 0
        · rw [if_pos h0, DS_leaf (by omega), if_neg (by omega)]
          left; rfl
        · rw [if_neg h0, if_neg h16, DS_leaf (by omega)]
          split
          · right; left; rfl
          · left; rfl
  rcases hc3 with q | q | q
  · rw [q, ← h.t0] at e
    have := h.inj hd' (by omega) e
    omega
  · rw [q, ← h.t16] at e
    have := h.inj hd' (by omega) e
    omega
  · rw [q, ← h.t17] at e
    have := h.inj hd' (by omega) e
    omega
theorem c_moveMarked {g : TG} {K : Nat → Bool} {M : MS} (hC : TC g K M) : ∃ M1 g', m_Terms_moveMarked M = some (M1, ()) ∧ MV g K M (tU g) g' M1 := by
  obtain ⟨hI, hN, hK18, hKk, h18r⟩ := id hC
  have hB := hI.1
  have hU18 := hB.1
  have hlt := hI.2.1.lt
  obtain ⟨⟨m1, m2⟩, ⟨m3, m4⟩, ⟨l4, l5, l6, l7, l8, l9, l10, l11, l12, l14⟩, ⟨k1, k2, k3⟩, mi⟩ := hI.2.1
  have hrm := rooms_le m4
  obtain ⟨M1, a1, a2, a3⟩ := c_fill (M := M) (a := 14) (v := -1) (Or.inl (by decide)) (by omega)
  have hTK := hB.2.2.2.2.2.2.2
  have hfr : Fr RV [(2, 16), (2, 17)] M (sI (sI M1 2 16 18) 2 17 1) := ((a2.mono (by decide) (by decide)).tr (Fr.stI (by decide))).tr (Fr.stI (by decide))
  have ga : ∀ a, a ≠ 14 → gA (sI (sI M1 2 16 18) 2 17 1) a = gA M a := fun a ha => by
    show gA M1 a = _
    exact a2.ga (by simpa using ha)
  have t17 := hB.2.2.2.1.2.1
  have gl : ∀ a, gL (sI (sI M1 2 16 18) 2 17 1) a = gL M a := fun a => by rw [hfr.ln]
  have hlen : ∀ i, i < 18 → tkf g i = 0 ∧ (tkd g i).length ≤ 1 := fun i hi => by
    refine ⟨hTK.1 i hi, ?_⟩
    by_cases h17 : i = 17
    · rw [h17, t17]; simp
    · by_cases h16 : i = 16
      · rw [h16, hB.2.2.1.2.1]; simp
      · rw [(hB.2.1 i (by omega)).2.1]; simp
  have hkl : kl K 18 = [] := by
    unfold kl
    refine List.filter_eq_nil_iff.mpr (fun a ha => ?_)
    have := List.mem_range.mp ha
    rw [decide_eq_false (by omega)]
    simp
  have start : MV g K M 18 (18, tso g, tkd g, ttx g, tkf g, 1, ttg g) (sI (sI M1 2 16 18) 2 17 1) := by
    refine ⟨⟨⟨Nat.le_refl _, hB.2.1, hB.2.2.1, hB.2.2.2.1, fun i h1 h2 => ?_, fun i hi => ?_, fun i j hi hj => ?_, hTK.1, fun i h1 hi => ?_, fun i j h1 h2 hj => ?_⟩, ?_, fun j hj1 hj2 => ?_, ?_, ?_⟩, ⟨fun i hi hki => ?_, fun m hm => ?_⟩, ⟨⟨⟨?_, ?_⟩, ⟨?_, ?_⟩, ?_, ⟨?_, ?_, ?_⟩, fun i hi => ?_⟩, ⟨fun i hi18 hi => ?_, fun b hb => ?_⟩, fun i hi => ?_, fun m c hm hc4 => ?_⟩, ⟨hfr, fun a ha p hp => ?_, fun p hp => ?_, fun p hp => ?_⟩⟩
    · have h2 : i < 18 := h2
      omega
    · have hi : i < 18 := hi
      exact hB.2.2.2.2.2.1 i (by omega)
    · have hi : i < 18 := hi
      have hj : j < 18 := hj
      exact hB.2.2.2.2.2.2.1 i j (by omega) (by omega)
    · have hi : i < 18 := hi
      have := hlen i hi
      show tkf g i + (tkd g i).length ≤ 1
      omega
    · have hj : j < 18 := hj
      omega
    · show 18 = rk K 18
      rw [h18r 18 (by omega)]
    · show 1 ≤ tkf g j
      have := hTK.2.2 17 j (by omega) (by omega) hj2
      rw [t17] at this
      have e : ([0] : List Nat).length = 1 := rfl
      omega
    · show 1 ≤ tKU g
      have := hTK.2.1 17 (by omega) (by omega)
      rw [t17] at this
      have e : ([0] : List Nat).length = 1 := rfl
      omega
    · show 1 = _
      rw [hkl]
      rfl
    · rw [h18r i (by omega)]
      exact ⟨rfl, rfl, rfl⟩
    · have hm : m < 18 := hm
      exact ⟨m, hm, hK18 m hm, (h18r m (by omega)).symm⟩
    · rw [gI_sI, if_neg (by omega), gI_sI, if_pos ⟨rfl, rfl⟩]
      rfl
    · rw [gI_sI, if_pos ⟨rfl, rfl⟩]
      rfl
    · rw [gl]
      show 18 ≤ gL M 3
      omega
    · rw [gl]; exact m4
    · simp only [gl]
      exact ⟨l4, l5, l6, l7, l8, l9, l10, l11, l12, l14⟩
    · rw [gl]
      show 1 ≤ gL M 13
      omega
    · rw [gl]; exact k2
    · rw [gl]; exact k3
    · have hi : i < 18 := hi
      rw [ga 3 (by omega), ga 4 (by omega), ga 5 (by omega), ga 6 (by omega), ga 7 (by omega), ga 13 (by omega)]
      obtain ⟨y3, y4, y5, y6, y7, y8, y9⟩ := mi i (by omega)
      refine ⟨y3, y4, y5, y6, y7, ?_, y9⟩
      have := hlen i hi
      show tkf g i + (tkd g i).length ≤ 1
      omega
    · have hi : i < 18 := hi
      omega
    · refine ⟨[], ?_, List.nodup_nil, (fun i hi => by cases hi), fun i h1 h2 => ?_⟩
      · show gA M1 14 b = -1
        rw [a3, if_pos (by omega)]
      · have h2 : i < 18 := h2
        omega
    · have hi : i < 18 := hi
      rw [ga 10 (by omega)]
      exact hI.2.2.2.2 i (by omega)
    · have hm : m < 18 := hm
      rw [ga 12 (by omega)]
      rcases hI.2.2.2.1 m c (by omega) hc4 with q | ⟨d, q1, q2, q3⟩
      · exact Or.inl q
      · have hd18 := hB.first hm q1 q3
        refine Or.inr ⟨d, q1, hK18 d hd18, ?_, q3⟩
        rw [h18r d (by omega)]
        exact q2
    · rw [ga a (by omega)]
    · rw [ga 12 (by omega)]
    · rw [ga 13 (by omega)]
  obtain ⟨M2, ⟨g', h2⟩, h3⟩ := lp0 (b := fun (k : Int32 × Int32 × MS → Option (MS × Unit)) (i : Int32 × Int32 × MS) => m_Terms_moveMarked_27b k i.1 i.2.1 i.2.2) (fun i M' => (Int32.ofNat (tU g), Int32.ofNat (18 + i), M')) (fun i M' => ∃ g', MV g K M (18 + i) g' M') (fun M' => some (M', ())) (n := tU g - 18) (by
    intro k i M' hi ⟨g', hm⟩
    have hfr' := hm.2.2.2.1
    have e11 : gA M' 11 (18 + i) = if K (18 + i) = true then Int32.ofNat (rk K (18 + i)) else -1 := by
      rw [hfr'.ga (by decide)]
      exact hN _ (by omega)
    have hrk := rk_le K (18 + i)
    by_cases hK : K (18 + i) = true
    · obtain ⟨M3, g'', s1, s2, s3⟩ := hm.step hC (by omega) (by omega) hK
      refine ⟨_, ⟨g'', s3⟩, ?_⟩
      show m_Terms_moveMarked_27b k (Int32.ofNat (tU g)) (Int32.ofNat (18 + i)) M' = _
      have g16 := hm.2.2.1.1.1.1
      unfold m_Terms_moveMarked_27b
      rw [if_neg (by rw [i_le_of (by omega) (by omega)]; omega), ld_of (by rw [hfr'.ln]; omega) (by omega), e11, if_pos hK, Option.bind_some, if_neg (i_nm1 (by omega)), g16, cal_some s1 s2.le.1 s2.le.2]
      show k (Int32.ofNat (tU g), Int32.ofNat (18 + i) + 1, sI M3 2 16 (gI M3 2 16 + 1)) = _
      rw [s2.gi (by decide), g16, i_inc, i_inc]
      rfl
    · refine ⟨M', ⟨g', hm.skip (by omega) hK⟩, ?_⟩
      show m_Terms_moveMarked_27b k (Int32.ofNat (tU g)) (Int32.ofNat (18 + i)) M' = _
      unfold m_Terms_moveMarked_27b
      rw [if_neg (by rw [i_le_of (by omega) (by omega)]; omega), ld_of (by rw [hfr'.ln]; omega) (by omega), e11, if_neg hK, Option.bind_some, if_pos rfl, i_inc]
      rfl) (by
    intro k M' _
    show m_Terms_moveMarked_27b k (Int32.ofNat (tU g)) (Int32.ofNat (18 + (tU g - 18))) M' = _
    unfold m_Terms_moveMarked_27b
    rw [if_pos (by rw [i_le_of (by omega) (by omega)]; omega)]) (sI (sI M1 2 16 18) 2 17 1) (by omega) ⟨_, start⟩
  refine ⟨M2, g', ?_, by
    rw [show 18 + (tU g - 18) = tU g by omega] at h2
    exact h2⟩
  unfold m_Terms_moveMarked
  rw [cal_some a1 a2.le.1 a2.le.2, Option.bind_some, Option.bind_some]
  show m_Terms_moveMarked_27 (gI M1 2 16, 18, _) = _
  rw [a2.gi (by simp), m1]
  exact h3
