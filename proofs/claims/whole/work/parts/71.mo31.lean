/-! STEP 2: the reference's equal -/
theorem i_600 : (600 : Int32) = Int32.ofNat 600 := rfl
theorem r_eq132 {t u : List Nat} {q p : List (List Nat)} {M0 : MS} (hq : Mch t q) (hp : Mch u p) (hX : XM M0 p) (hO : XO M0 q) (hL : RLx (gL M0)) (M : MS) (hf : Fr [117, 118, 120] [] M0 M) (hc : ∀ i, i < 22500 → gA M 120 i = 0) : Ok (m_Mo_equal_132 M) (SQ t u M0) := by
  obtain ⟨hRL, -, ⟨-, -, l10, l11, -, -, l14, l15⟩, ⟨-, l17, l18, l19, l20, -⟩⟩ := id hL
  have hln := hf.ln
  unfold m_Mo_equal_132
  rw [show stA M 117 (0 : Int32) (0 : Int32) = some (sA M 117 0 0) from st_of (i := 0) (by rw [hln]; omega) (by omega), Option.bind_some, show stA (sA M 117 0 0) 118 (0 : Int32) (-1 : Int32) = some (sA (sA M 117 0 0) 118 0 (-1)) from st_of (i := 0) (by rw [gL_sA, hln]; omega) (by omega), Option.bind_some, show stZ (sA (sA M 117 0 0) 118 0 (-1)) 120 (0 : Int32) (1 : Int32) = some (sA (sA (sA M 117 0 0) 118 0 (-1)) 120 0 (nb 1)) from st_ofZ (i := 0) (by rw [gL_sA, gL_sA, hln]; omega) (by omega), Option.bind_some]
  refine r_eq158 hq hp hX hO hL _ ⟨⟨by omega, rfl, rfl, rfl⟩, fun m hm => ?_, fun i j hi hj _ _ => by omega, fun i j hij hj => by omega, ⟨?_, fun m hm => ?_⟩, fun m hm0 hmn => by omega, fun x y hx hy => ?_, fun j d hj hd hjd => by omega, fun j hj hjk => by omega, ?_⟩
  · exact ⟨hq.pos.1, hp.pos.1, hq.pos.2, hp.pos.2, fun c hc => by cases hc⟩
  · rw [gA_sA, if_neg (by omega), gA_sA, if_pos ⟨rfl, rfl⟩]
  · have : m = 0 := by omega
    subst this
    rw [gA_sA, if_neg (by omega), gA_sA, if_neg (by omega), gA_sA, if_pos ⟨rfl, rfl⟩]
    rfl
  · rw [gA_sA]
    by_cases he : x = 0 ∧ y = 0
    · rw [if_pos (by omega)]
      exact ⟨true, by decide, fun _ => ⟨0, by omega, he.1.symm, he.2.symm⟩, fun _ => rfl⟩
    · rw [if_neg (by omega), gA_sA, if_neg (by omega), gA_sA, if_neg (by omega), hc _ (by omega)]
      refine ⟨false, rfl, fun h => (by cases h), fun ⟨m, m1, m2, m3⟩ => absurd ⟨m2.symm, m3.symm⟩ he⟩
  · exact ((hf.tr (Fr.stA (by decide))).tr (Fr.stA (by decide))).tr (Fr.stA (by decide))
theorem r_eq112 {t u : List Nat} {q p : List (List Nat)} {M0 : MS} (hq : Mch t q) (hp : Mch u p) (hX : XM M0 p) (hO : XO M0 q) (hL : RLx (gL M0)) : Ok (m_Mo_equal_112 (0, M0)) (SQ t u M0) := by
  obtain ⟨hRL, -, ⟨-, -, l10, l11, -, -, l14, l15⟩, ⟨-, l17, l18, l19, l20, -⟩⟩ := id hL
  unfold m_Mo_equal_112
  refine ok_fx (inv := fun z => ∃ (i : Nat) (M : MS), z = (Int32.ofNat i, M) ∧ i ≤ 22500 ∧ (∀ j, j < i → gA M 120 j = 0) ∧ Fr [117, 118, 120] [] M0 M) (μ := fun z => 22501 - z.1.toInt.toNat) ?_ _ ⟨0, M0, rfl, by omega, fun j hj => by omega, Fr.rf⟩ (by unfold FU; omega)
  intro k112 z hz ih
  obtain ⟨i, M, rfl, hi, hc, hf⟩ := hz
  show Ok (m_Mo_equal_112b k112 (Int32.ofNat i) M) _
  unfold m_Mo_equal_112b
  by_cases he : i = 22500
  · rw [if_pos (by rw [he]; decide)]
    rw [he] at hc
    exact r_eq132 hq hp hX hO hL M hf hc
  · rw [if_neg (by rw [show (22500 : Int32) = Int32.ofNat 22500 from rfl, i_le_of (by omega) (by omega)]; omega), st_ofZ (by rw [hf.ln]; omega) (by omega), Option.bind_some, i_inc]
    refine ih (Int32.ofNat (i + 1), sA M 120 i (nb 0)) ⟨i + 1, _, rfl, by omega, fun j hj => ?_, hf.tr (Fr.stA (by decide))⟩ (by show 22501 - (Int32.ofNat (i + 1)).toInt.toNat < 22501 - (Int32.ofNat i).toInt.toNat; rw [i_of (by omega), i_of (by omega)]; omega)
    rw [gA_sA]
    by_cases hji : j = i
    · rw [if_pos ⟨rfl, hji⟩]; decide
    · rw [if_neg (by omega)]; exact hc j (by omega)
/-- the first machine is laid aside -/
theorem r_eq47 {t : List Nat} {q : List (List Nat)} {M0 : MS} {l2 : Int32} {Q : MS × Int32 → Prop} (hq : Mch t q) (hX : XM M0 q) (hL : RLx (gL M0)) (hk : ∀ M, XO M q → Fr [111, 115] [] M0 M → Ok (m_Mo_equal_99 l2 M) Q) : Ok (m_Mo_equal_47 (l2, 0, M0)) Q := by
  obtain ⟨hRL, -, ⟨-, -, l10, l11, -, -, l14, l15⟩, -⟩ := id hL
  have ql := hq.2.1
  unfold m_Mo_equal_47
  refine ok_fx (inv := fun z => ∃ (i : Nat) (M : MS), z = (l2, Int32.ofNat i, M) ∧ i ≤ 600 ∧ (∀ j, j < i → gA M 111 j = gA M0 110 j) ∧ Fr [111, 115] [] M0 M) (μ := fun z => 601 - z.2.1.toInt.toNat) ?_ _ ⟨0, M0, rfl, by omega, fun j hj => by omega, Fr.rf⟩ (by unfold FU; omega)
  intro k47 z hz ih
  obtain ⟨i, M, rfl, hi, hc, hf⟩ := hz
  show Ok (m_Mo_equal_47b k47 l2 (Int32.ofNat i) M) _
  unfold m_Mo_equal_47b
  by_cases he : i = 600
  · rw [if_pos (by rw [he]; decide)]
    rw [he] at hc
    unfold m_Mo_equal_74
    refine ok_fx (inv := fun z => ∃ (i : Nat) (M : MS), z = (l2, Int32.ofNat i, M) ∧ i ≤ 150 ∧ (∀ j, j < 600 → gA M 111 j = gA M0 110 j) ∧ (∀ j, j < i → gA M 115 j = nb (gA M0 114 j)) ∧ Fr [111, 115] [] M0 M) (μ := fun z => 151 - z.2.1.toInt.toNat) ?_ _ ⟨0, M, rfl, by omega, hc, fun j hj => by omega, hf⟩ (by unfold FU; omega)
    intro k74 z hz ih2
    obtain ⟨i, M, rfl, hi, hc, hc2, hf⟩ := hz
    show Ok (m_Mo_equal_74b k74 l2 (Int32.ofNat i) M) _
    unfold m_Mo_equal_74b
    by_cases he : i = 150
    · rw [if_pos (by rw [he]; decide)]
      rw [he] at hc2
      refine hk M (fun i hi => ⟨?_, fun c hc4 => ?_⟩) hf
      · rw [hc2 i (by omega), (hX i hi).1, nb_b01]
      · rw [hc _ (by omega)]
        exact (hX i hi).2 c hc4
    · rw [if_neg (by rw [show (150 : Int32) = Int32.ofNat 150 from rfl, i_le_of (by omega) (by omega)]; omega), ld_of (by rw [hf.ln]; omega) (by omega), Option.bind_some, st_ofZ (by rw [hf.ln]; omega) (by omega), Option.bind_some, i_inc]
      refine ih2 (l2, Int32.ofNat (i + 1), sA M 115 i (nb (gA M 114 i))) ⟨i + 1, _, rfl, by omega, fun j hj => ?_, fun j hj => ?_, hf.tr (Fr.stA (by decide))⟩ (by show 151 - (Int32.ofNat (i + 1)).toInt.toNat < 151 - (Int32.ofNat i).toInt.toNat; rw [i_of (by omega), i_of (by omega)]; omega)
      · rw [gA_sA, if_neg (by omega)]; exact hc j hj
      · rw [gA_sA]
        by_cases hji : j = i
        · rw [if_pos ⟨rfl, hji⟩, hji, hf.ga (by decide)]
        · rw [if_neg (by omega)]; exact hc2 j (by omega)
  · rw [if_neg (by rw [i_600, i_le_of (by omega) (by omega)]; omega), ld_of (by rw [hf.ln]; omega) (by omega), Option.bind_some, st_of (by rw [hf.ln]; omega) (by omega), Option.bind_some, i_inc]
    refine ih (l2, Int32.ofNat (i + 1), sA M 111 i (gA M 110 i)) ⟨i + 1, _, rfl, by omega, fun j hj => ?_, hf.tr (Fr.stA (by decide))⟩ (by show 601 - (Int32.ofNat (i + 1)).toInt.toNat < 601 - (Int32.ofNat i).toInt.toNat; rw [i_of (by omega), i_of (by omega)]; omega)
    rw [gA_sA]
    by_cases hji : j = i
    · rw [if_pos ⟨rfl, hji⟩, hji, hf.ga (by decide)]
    · rw [if_neg (by omega)]; exact hc j (by omega)
theorem r_equal_bad {S : Nat → List Nat} {W : Option (List Nat)} {M : MS} {a b : Int32} (hI : RI S W M) (h : (slB a && slB b) = false) : RA S W M (m_Mo_equal a b M) 0 1 := by
  have e : m_Mo_equal a b M = some (sI M 97 0 1, 0) := by
    cases h1 : slB a
    · simp only [m_Mo_equal, m_Mo_equal_15, m_Mo_equal_20, r_isSlot, cal_same, h1, b01_t, b01_f, i10, not_false_eq_true, not_true_eq_false, if_true, if_false, r_fail1, cal_sI]
    · cases h2 : slB b
      · simp only [m_Mo_equal, m_Mo_equal_15, m_Mo_equal_20, r_isSlot, cal_same, h1, h2, b01_t, b01_f, i10, not_false_eq_true, not_true_eq_false, if_true, if_false, r_fail1, cal_sI]
      · rw [h1, h2] at h
        cases h
  rw [e]
  exact RA.fail hI _ _
/-- equal: what it answers, and the word it keeps -/
theorem r_equal {S : Nat → List Nat} {W : Option (List Nat)} {M : MS} {a b : Nat} (hI : RI S W M) (ha : a < 16) (hb : b < 16) : ∃ v W', RA S W' M (m_Mo_equal (Int32.ofNat a) (Int32.ofNat b) M) v 0 ∧ EqV (S a) (S b) v W' := by
  have e : m_Mo_equal (Int32.ofNat a) (Int32.ofNat b) M = m_Mo_equal_20 (Int32.ofNat a) (Int32.ofNat b) 0 M := by
    simp only [m_Mo_equal, r_isSlot, cal_same, slB_nat ha, slB_nat hb, b01_t, i10, not_false_eq_true, if_true, if_false]
  rw [e]
  unfold m_Mo_equal_20
  rw [r_fail0, cal_sI, if_pos (by show (0 : Int32) = 0; decide), Option.bind_some]
  have hfr1 : Fr [] [(97, 0), (97, 27)] M (sI (sI M 97 0 0) 97 27 (-1)) := (Fr.stI (by decide)).tr (Fr.stI (by decide))
  have hI1 : RI S none (sI (sI M 97 0 0) 97 27 (-1)) := by
    obtain ⟨g1, g2, g3⟩ := hI
    refine ⟨g1, g2, ?_⟩
    show gI _ 97 27 = -1
    rw [gI_sI, if_pos ⟨rfl, rfl⟩]
  have hth : gI (sI (sI M 97 0 0) 97 27 (-1)) 97 0 = 0 := by rw [gI_sI, if_neg (by omega), gI_sI, if_pos ⟨rfl, rfl⟩]
  have hF0 : FrR M (sI (sI M 97 0 0) 97 27 (-1)) := hfr1.toR (by decide) (by decide)
  show ∃ v W', RA S W' M (cal cM (sI (sI M 97 0 0) 97 27 (-1)) (m_Mo_explore (Int32.ofNat a) (sI (sI M 97 0 0) 97 27 (-1))) _) v 0 ∧ _
  generalize sI (sI M 97 0 0) 97 27 (-1) = M1 at hI1 hth hF0
  refine explore_then hI1 ha (G := fun x => ∃ v W', RA S W' M x v 0 ∧ EqV (S a) (S b) v W') (fun hbig M2 hI2 hf => ?_) (fun q M2 hq hX hI2 hf => ?_)
  · rw [if_neg (by show ¬ ¬ (-1 : Int32) = -1; decide)]
    exact ⟨-1, none, ⟨M2, rfl, hI2, hF0.tr (FrE hf), by rw [ThE hf]; exact hth⟩, Or.inl ⟨Or.inl hbig, rfl, rfl⟩⟩
  · have ql := hq.2.1
    rw [if_pos (i_nm1 (by omega))]
    have hth2 : gI M2 97 0 = 0 := by rw [ThE hf]; exact hth
    have hF2 := hF0.tr (FrE hf)
    have hgo : Ok (m_Mo_equal_47 (Int32.ofNat b, 0, M2)) (fun r => ∃ W', RA S W' M (some r) r.2 0 ∧ EqV (S a) (S b) r.2 W') := by
      refine r_eq47 hq hX hI2.1 (fun M3 hO hf3 => ?_)
      unfold m_Mo_equal_99
      have hI3 := hI2.fr hf3 (by decide) (by decide) (by decide) (by decide)
      have hF3 := hF2.tr (hf3.toR (by decide) (by decide))
      have hth3 : gI M3 97 0 = 0 := by rw [hf3.gi (by decide)]; exact hth2
      refine explore_then hI3 hb (G := fun x => Ok x (fun r => ∃ W', RA S W' M (some r) r.2 0 ∧ EqV (S a) (S b) r.2 W')) (fun hbig M4 hI4 hf4 => ?_) (fun p M4 hp hX4 hI4 hf4 => ?_)
      · rw [if_neg (by show ¬ ¬ (-1 : Int32) = -1; decide)]
        exact ok_some ⟨none, ⟨M4, rfl, hI4, hF3.tr (FrE hf4), by rw [ThE hf4]; exact hth3⟩, Or.inl ⟨Or.inr hbig, rfl, rfl⟩⟩
      · have pl := hp.2.1
        rw [if_pos (i_nm1 (by omega))]
        have h112 := r_eq112 hq hp hX4 (hO.fr hf4 (by decide) (by decide)) hI4.1
        refine Ok.mono h112 (fun r hr => ?_)
        have hth4 : gI M4 97 0 = 0 := by rw [ThE hf4]; exact hth3
        rcases hr with ⟨r1, r2, r3, r4⟩ | ⟨w, r1, r2, r3, r4, r5⟩
        · refine ⟨none, ⟨r.1, rfl, ⟨?_, fun s hs => ?_, ?_⟩, (hF3.tr (FrE hf4)).tr (r3.toR (by decide) (by decide)), by rw [r3.gi (by decide)]; exact hth4⟩, Or.inr ⟨hq.nBig, hp.nBig, Or.inl ⟨r2, r1, rfl⟩⟩⟩
          · rw [r3.ln]; exact hI4.1
          · obtain ⟨g1, g2, g3⟩ := hI4.2.1 s hs
            exact ⟨g1.fr r3 (by decide), by rw [r3.ga (by decide)]; exact g2, g3⟩
          · show gI r.1 97 27 = -1
            rw [r4]; exact hI4.2.2
        · refine ⟨some w, ⟨r.1, rfl, ⟨?_, fun s hs => ?_, r3, r4, r2.1⟩, (hF3.tr (FrE hf4)).tr (r5.toR (by decide) (by decide)), by rw [r5.gi (by decide)]; exact hth4⟩, Or.inr ⟨hq.nBig, hp.nBig, Or.inr ⟨w, r2, r1, rfl⟩⟩⟩
          · rw [r5.ln]; exact hI4.1
          · obtain ⟨g1, g2, g3⟩ := hI4.2.1 s hs
            exact ⟨g1.fr r5 (by decide), by rw [r5.ga (by decide)]; exact g2, g3⟩
    obtain ⟨r, e1, W', e2, e3⟩ := hgo
    have e1' : m_Mo_equal_47 (Int32.ofNat b, 0, (M2, Int32.ofNat q.length).1) = some r := e1
    rw [e1']
    exact ⟨r.2, W', e2, e3⟩
