/-! STEP 2: the reference's similar and look -/
theorem r_similar_bad {S : Nat → List Nat} {W : Option (List Nat)} {M : MS} {a b : Int32} (hI : RI S W M) (h : (slB a && slB b) = false) : RA S W M (m_Mo_similar a b M) 0 1 := by
  have e : m_Mo_similar a b M = some (sI M 97 0 1, 0) := by
    cases h1 : slB a
    · simp only [m_Mo_similar, m_Mo_similar_15, m_Mo_similar_20, r_isSlot, cal_same, h1, b01_t, b01_f, i10, not_false_eq_true, not_true_eq_false, if_true, if_false, r_fail1, cal_sI]
    · cases h2 : slB b
      · simp only [m_Mo_similar, m_Mo_similar_15, m_Mo_similar_20, r_isSlot, cal_same, h1, h2, b01_t, b01_f, i10, not_false_eq_true, not_true_eq_false, if_true, if_false, r_fail1, cal_sI]
      · rw [h1, h2] at h
        cases h
  rw [e]
  exact RA.fail hI _ _
theorem r_similar {S : Nat → List Nat} {W : Option (List Nat)} {M : MS} {a b : Nat} (hI : RI S W M) (ha : a < 16) (hb : b < 16) : RA S W M (m_Mo_similar (Int32.ofNat a) (Int32.ofNat b) M) (b01 (decide (S a = S b))) 0 := by
  have e : m_Mo_similar (Int32.ofNat a) (Int32.ofNat b) M = m_Mo_similar_20 (Int32.ofNat a) (Int32.ofNat b) 0 M := by
    simp only [m_Mo_similar, r_isSlot, cal_same, slB_nat ha, slB_nat hb, b01_t, i10, not_false_eq_true, if_true, if_false]
  rw [e]
  unfold m_Mo_similar_20
  rw [r_fail0, cal_sI, if_neg (by show ¬ ¬ (0 : Int32) = 0; decide)]
  have hI0 := hI.thr 0
  have hth : gI (sI M 97 0 0) 97 0 = 0 := by rw [gI_sI, if_pos ⟨rfl, rfl⟩]
  have hF0 : FrR M (sI M 97 0 0) := FrR.thr 0
  generalize sI M 97 0 0 = M1 at hI0 hth hF0
  obtain ⟨hL, hSl, hWt⟩ := id hI0
  obtain ⟨a1, a2, a3⟩ := hSl a ha
  obtain ⟨b1, b2, b3⟩ := hSl b hb
  have al := a3.2.2
  have bl := b3.2.2
  obtain ⟨hRL, ⟨l8, l9⟩, -, -⟩ := hL
  rw [ld_of (by show _ < gL M1 99; omega) (by omega)]
  simp only [Option.bind_some]
  rw [ld_of (by show _ < gL M1 99; omega) (by omega)]
  simp only [Option.bind_some]
  rw [a2, b2, show (100 : Int32) = Int32.ofNat 100 from rfl, i_mul_of, i_mul_of, r_same (by decide) (by decide) a1 b1 a3.sm b3.sm (by omega) (by omega), cal_same]
  by_cases h : S a = S b
  · rw [if_neg (by simp [h]), decide_eq_true h]
    exact ⟨M1, rfl, hI0, hF0, hth⟩
  · rw [if_pos (by simp [h]), decide_eq_false h]
    exact ⟨M1, rfl, hI0, hF0, hth⟩
/-- what look answers of a term -/
def lookT (what : Int32) (t : List Nat) : Int32 := if what = 0 then Int32.ofNat (hd t % 8) else if what = 1 then Int32.ofNat t.length else if what = 2 then b01 (NS t) else if what = 3 then Int32.ofNat (ar (hd t)) else if what = 4 then (if hd t % 8 = 2 then Int32.ofNat (hd t / 8) else 0) else -1
theorem r_look_bad {S : Nat → List Nat} {W : Option (List Nat)} {M : MS} {a b : Int32} (hI : RI S W M) (h : slB a = false) : RA S W M (m_Mo_look a b M) 0 1 := by
  have e : m_Mo_look a b M = some (sI M 97 0 1, 0) := by
    simp only [m_Mo_look, m_Mo_look_13, r_isSlot, cal_same, h, b01_f, i10, not_true_eq_false, if_false, r_fail1, cal_sI]
  rw [e]
  exact RA.fail hI _ _
theorem r_look {S : Nat → List Nat} {W : Option (List Nat)} {M : MS} {a : Nat} {what : Int32} (hI : RI S W M) (ha : a < 16) : RA S W M (m_Mo_look (Int32.ofNat a) what M) (lookT what (S a)) 0 := by
  have e : m_Mo_look (Int32.ofNat a) what M = m_Mo_look_13 (Int32.ofNat a) what 0 M := by
    simp only [m_Mo_look, r_isSlot, cal_same, slB_nat ha, b01_t, i10, not_false_eq_true, if_true]
  rw [e]
  unfold m_Mo_look_13
  rw [r_fail0, cal_sI, if_pos (by show (0 : Int32) = 0; decide)]
  have hI0 := hI.thr 0
  have hth : gI (sI M 97 0 0) 97 0 = 0 := by rw [gI_sI, if_pos ⟨rfl, rfl⟩]
  have hF0 : FrR M (sI M 97 0 0) := FrR.thr 0
  generalize sI M 97 0 0 = M1 at hI0 hth hF0
  obtain ⟨hL, hSl, hWt⟩ := id hI0
  obtain ⟨a1, a2, a3⟩ := hSl a ha
  have al := a3.2.2
  obtain ⟨hRL, ⟨l8, l9⟩, -, -⟩ := hL
  have a1' := a1
  rw [(pts_spec a3.1).1] at a1'
  obtain ⟨g1, g2, -⟩ := a1'.cons
  have hh := a3.sm _ (hd_mem a3.1)
  have hm : hd (S a) % 8 < 8 := Nat.mod_lt _ (by omega)
  rw [show (100 : Int32) = Int32.ofNat 100 from rfl, i_mul_of, ld_of g2 (by omega), g1]
  simp only [Option.bind_some]
  unfold lookT
  have fin : ∀ v : Int32, RA S W M (some (M1, v)) v 0 := fun v => ⟨M1, rfl, hI0, hF0, hth⟩
  by_cases c0 : what = 0
  · rw [if_pos c0, if_pos c0]
    unfold m_Mo_sort
    rw [cal_same, it_and]
    exact fin _
  · rw [if_neg c0, if_neg c0]
    by_cases c1 : what = 1
    · rw [if_pos c1, if_pos c1, ld_of (by show _ < gL M1 99; omega) (by omega)]
      simp only [Option.bind_some]
      rw [a2]
      exact fin _
    · rw [if_neg c1, if_neg c1]
      by_cases c2 : what = 2
      · rw [if_pos c2, if_pos c2, ld_of (by show _ < gL M1 99; omega) (by omega)]
        simp only [Option.bind_some]
        rw [a2]
        obtain ⟨M2, d1, d2, d3, d4⟩ := r_derived (M := M1) (l1 := 98) (c := 0) (Or.inl rfl) (by omega) a3.1 a3.2.1 (by omega) (by omega) hRL a1
        have d1' : m_Mo_derived 98 (Int32.ofNat (100 * a)) (Int32.ofNat (S a).length) (0 : Int32) M1 = _ := d1
        rw [cal_some d1' d4.le.1 d4.le.2]
        have l5 := hRL.2.2.1.2.2.2
        rw [show (0 : Int32) = Int32.ofNat 0 from rfl, ld_of (by show 0 < gL M2 105; rw [d4.ln]; omega) (by omega)]
        simp only [Option.bind_some]
        rw [d3]
        have hres : ∀ v : Int32, RA S W M (some (M2, v)) v 0 := fun v => ⟨M2, rfl, hI0.fr d4 (by decide) (by decide) (by decide) (by decide), hF0.tr (d4.toR (by decide) (by decide)), by rw [d4.gi (by decide)]; exact hth⟩
        cases NS (S a) with
        | true => rw [if_neg (by decide)]; exact hres _
        | false => rw [if_pos (by decide)]; exact hres _
      · rw [if_neg c2, if_neg c2]
        by_cases c3 : what = 3
        · rw [if_pos c3, if_pos c3, r_arity hh, cal_same]
          exact fin _
        · rw [if_neg c3, if_neg c3]
          by_cases c4 : what = 4
          · rw [if_pos c4, if_pos c4]
            unfold m_Mo_sort
            rw [cal_same, it_and]
            by_cases h2 : hd (S a) % 8 = 2
            · rw [if_neg (by rw [h2]; show ¬ ¬ Int32.ofNat 2 = 2; decide), if_pos h2, it_shr (by omega)]
              exact fin _
            · rw [if_pos (by show ¬ Int32.ofNat (hd (S a) % 8) = 2; rw [show (2 : Int32) = Int32.ofNat 2 from rfl, i_eq_of (by omega) (by omega)]; exact h2), if_neg h2]
              exact fin _
          · rw [if_neg c4, if_neg c4]
            exact fin _
