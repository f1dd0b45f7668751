/-! STEP 2: the law's loop -/
theorem ldS_of {xs : Nat → Int32} {L i : Nat} (h : i < L) (h2 : i < 100000) : ldS xs L (Int32.ofNat i) = some (xs i) := by
  unfold ldS
  have e : (Int32.ofNat i).toNatClampNeg = i := by rw [i_cl, i_of (by omega)]; omega
  rw [e, if_neg (by rw [i_lt, i_of (by omega), i_0]; omega)]
theorem law_body {xs : Nat → Int32} {L i k : Nat} {M0 M : MS} (k23 : Int32 × MS → Option Unit) (hL : L ≤ 2560) (hi : i + 5 ≤ L) (h : LI M0 k M) : ∃ M3, LI M0 (k + 1) M3 ∧ m_Law_law_23b xs L k23 (Int32.ofNat i) M = k23 (Int32.ofNat (i + 5), M3) := by
  have e0 : ldS xs L (Int32.ofNat i) = some (xs i) := ldS_of (by omega) (by omega)
  have e1 : ldS xs L (Int32.ofNat i + 1) = some (xs (i + 1)) := by rw [show (1 : Int32) = Int32.ofNat 1 from rfl, i_add_of]; exact ldS_of (by omega) (by omega)
  have e2 : ldS xs L (Int32.ofNat i + 2) = some (xs (i + 2)) := by rw [show (2 : Int32) = Int32.ofNat 2 from rfl, i_add_of]; exact ldS_of (by omega) (by omega)
  have e3 : ldS xs L (Int32.ofNat i + 3) = some (xs (i + 3)) := by rw [show (3 : Int32) = Int32.ofNat 3 from rfl, i_add_of]; exact ldS_of (by omega) (by omega)
  have e4 : ldS xs L (Int32.ofNat i + 4) = some (xs (i + 4)) := by rw [show (4 : Int32) = Int32.ofNat 4 from rfl, i_add_of]; exact ldS_of (by omega) (by omega)
  have e5 : Int32.ofNat i + 5 = Int32.ofNat (i + 5) := i_add_of i 5
  have es : (Int32.ofNat L - 5).toInt = (L : Int) - 5 := by
    have e : (Int32.ofNat L).toInt = (L : Int) := i_of (by omega)
    have e' : (5 : Int32).toInt = 5 := rfl
    rw [i_sub (by rw [e, e']; omega) (by rw [e, e']; omega), e, e']
  unfold m_Law_law_23b
  rw [if_neg (by rw [i_lt, es, i_of (by omega)]; omega), e0, Option.bind_some]
  by_cases c0 : (xs i &&& (15 : Int32)) = 0
  · rw [if_pos c0]
    simp only [e1, e2, e5, Option.bind_some]
    exact law_go (K := fun M' => k23 (Int32.ofNat (i + 5), M')) (ag_letters h _ _)
  rw [if_neg c0]
  by_cases c1 : (xs i &&& (15 : Int32)) = 1
  · rw [if_pos c1]
    simp only [e1, e2, e3, e4, e5, Option.bind_some]
    exact law_go (K := fun M' => k23 (Int32.ofNat (i + 5), M')) (ag_join h _ _ _ _)
  rw [if_neg c1]
  by_cases c2 : (xs i &&& (15 : Int32)) = 2
  · rw [if_pos c2]
    simp only [e1, e2, e3, e5, Option.bind_some]
    exact law_go (K := fun M' => k23 (Int32.ofNat (i + 5), M')) (ag_turn h _ _ _)
  rw [if_neg c2]
  by_cases c3 : (xs i &&& (15 : Int32)) = 3
  · rw [if_pos c3]
    simp only [e1, e2, e3, e5, Option.bind_some]
    exact law_go (K := fun M' => k23 (Int32.ofNat (i + 5), M')) (ag_derive h _ _ _)
  rw [if_neg c3]
  by_cases c4 : (xs i &&& (15 : Int32)) = 4
  · rw [if_pos c4]
    simp only [e1, e2, m_Law_law_494, e5, Option.bind_some]
    obtain ⟨M3, g1, g2⟩ := law_go (K := fun M' => k23 (Int32.ofNat (i + 5), M')) (ag_similar h (xs (i + 1)) (xs (i + 2)))
    refine ⟨M3, g1, Eq.trans ?_ g2⟩
    congr 1
    funext r4
    congr 1
    funext r7
    congr 1
    funext r8
    unfold cvB
    by_cases hr : r7.2 = 0
    · simp only [if_pos hr]
    · simp only [if_neg hr]
  rw [if_neg c4]
  by_cases c5 : (xs i &&& (15 : Int32)) = 5
  · rw [if_pos c5]
    simp only [e1, e2, e3, m_Law_law_581, e5, Option.bind_some]
    obtain ⟨M3, g1, g2⟩ := law_go (K := fun M' => k23 (Int32.ofNat (i + 5), M')) (ag_has h (xs (i + 1)) (xs (i + 2)) (xs (i + 3)))
    refine ⟨M3, g1, Eq.trans ?_ g2⟩
    congr 1
    funext r4
    congr 1
    funext r7
    congr 1
    funext r8
    unfold cvB
    by_cases hr : r7.2 = 0
    · simp only [if_pos hr]
    · simp only [if_neg hr]
  rw [if_neg c5]
  by_cases c6 : (xs i &&& (15 : Int32)) = 6
  · rw [if_pos c6]
    simp only [e1, e5, Option.bind_some]
    exact law_go (K := fun M' => k23 (Int32.ofNat (i + 5), M')) (ag_states h _)
  rw [if_neg c6]
  by_cases c7 : (xs i &&& (15 : Int32)) = 7
  · rw [if_pos c7]
    simp only [e1, e5, Option.bind_some]
    exact law_go (K := fun M' => k23 (Int32.ofNat (i + 5), M')) (ag_languages h _)
  rw [if_neg c7]
  by_cases c8 : (xs i &&& (15 : Int32)) = 8
  · rw [if_pos c8]
    simp only [e1, e2, e5, Option.bind_some]
    exact law_go (K := fun M' => k23 (Int32.ofNat (i + 5), M')) (ag_equal h _ _)
  rw [if_neg c8]
  by_cases c9 : (xs i &&& (15 : Int32)) = 9
  · rw [if_pos c9]
    simp only [e1, e5, Option.bind_some]
    obtain ⟨⟨S, W, h1, h2⟩, h3, h4⟩ := h
    obtain ⟨M1, x1, x2, x3⟩ := c_witness (i := xs (i + 1)) h2
    have hI0 : RI S W M1 := h1.frc x3
    obtain ⟨M3, r1, r2, r3, r4⟩ := r_witness (i := xs (i + 1)) hI0
    refine ⟨M3, ⟨⟨S, W, r2, x2.frr r3⟩, by rw [r3.2.1, (x3.1 123 (by omega)).2.2]; exact h3, ((h4.pg x3.2.2.2).up).pg (PG.of r3.2.2.2.2 r3.2.1)⟩, ?_⟩
    rw [cal_some x1 x3.2.2.1.1 x3.2.2.1.2]
    show cal cM M1 (m_Mo_witness (xs (i + 1)) M1) _ = _
    rw [cal_some r1 r3.le.1 r3.le.2, if_pos rfl]
  rw [if_neg c9]
  by_cases c10 : (xs i &&& (15 : Int32)) = 10
  · rw [if_pos c10]
    simp only [e1, e2, e5, Option.bind_some]
    exact law_go (conv := id) (K := fun M' => k23 (Int32.ofNat (i + 5), M')) (ag_words h _ _)
  rw [if_neg c10]
  by_cases c11 : (xs i &&& (15 : Int32)) = 11
  · rw [if_pos c11]
    simp only [e1, e5, Option.bind_some]
    exact law_go (K := fun M' => k23 (Int32.ofNat (i + 5), M')) (ag_ends h _)
  rw [if_neg c11]
  by_cases c12 : (xs i &&& (15 : Int32)) = 12
  · rw [if_pos c12]
    simp only [e1, e2, e3, e5, Option.bind_some]
    exact law_go (conv := id) (K := fun M' => k23 (Int32.ofNat (i + 5), M')) (ag_find h _ _)
  rw [if_neg c12]
  by_cases c13 : (xs i &&& (15 : Int32)) = 13
  · rw [if_pos c13]
    simp only [e1, e2, e5, Option.bind_some]
    exact law_go (K := fun M' => k23 (Int32.ofNat (i + 5), M')) (ag_look h _ _)
  rw [if_neg c13]
  exact ⟨M, ⟨h.1, h.2.1, h.2.2.up⟩, by rw [e5]⟩
theorem CI.ptl {S : Nat → List Nat} {W : Option (List Nat)} {M : MS} (h : CI S W M) : pot M ≤ 6128128 := by
  obtain ⟨g, sl, h1, -, -, -, ⟨⟨-, -, -, p1, p2, p3, p4⟩, -, p5⟩, ⟨-, p6⟩, -⟩ := h
  have := rooms_le h1.2.1.2.1.2
  unfold pot
  omega
theorem law_all {xs : Nat → Int32} {L : Nat} {M0 : MS} (hL : L ≤ 2560) (h : LI M0 0 M0) (hr : (cM M0).2 ≤ 1100000 + pot M0 ∧ (cM M0).1 ≤ 400000) : m_Law_law xs L M0 = some () := by
  have go : Ok (m_Law_law_23 xs L (0, M0)) (fun _ => True) := by
    unfold m_Law_law_23
    refine ok_fx (inv := fun z => ∃ k M, z = (Int32.ofNat (5 * k), M) ∧ 5 * k ≤ L ∧ LI M0 k M) (μ := fun z => 2561 - z.1.toInt.toNat) ?_ _ ⟨0, M0, rfl, by omega, h⟩ (by unfold FU; omega)
    intro k23 z hz ih
    obtain ⟨k, M, rfl, hk, hI⟩ := hz
    show Ok (m_Law_law_23b xs L k23 (Int32.ofNat (5 * k)) M) _
    by_cases hc : 5 * k + 5 ≤ L
    · obtain ⟨M3, g1, g2⟩ := law_body (xs := xs) k23 hL hc hI
      rw [g2]
      exact ih (Int32.ofNat (5 * k + 5), M3) ⟨k + 1, M3, rfl, by omega, g1⟩ (by show 2561 - (Int32.ofNat (5 * k + 5)).toInt.toNat < 2561 - (Int32.ofNat (5 * k)).toInt.toNat; rw [i_of (by omega), i_of (by omega)]; omega)
    · unfold m_Law_law_23b
      have es : (Int32.ofNat L - 5).toInt = (L : Int) - 5 := by
        have e : (Int32.ofNat L).toInt = (L : Int) := i_of (by omega)
        have e' : (5 : Int32).toInt = 5 := rfl
        rw [i_sub (by rw [e, e']; omega) (by rw [e, e']; omega), e, e']
      rw [if_pos (by rw [i_lt, es, i_of (by omega)]; omega)]
      obtain ⟨⟨S, W, -, h2⟩, -, h4⟩ := hI
      have hp := h2.ptl
      unfold Rm at h4
      unfold x_lend
      rw [if_pos (by omega)]
      exact ok_some trivial
  obtain ⟨r, e, -⟩ := go
  exact e
