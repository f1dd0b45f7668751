/-! STEP 2, the class: tidy: one term moves -/
theorem c_move8 {M : MS} {t KU kf L : Nat} {m : Int32} {kd own : List Nat} (hl : own.length = kd.length) (hL : L ≤ 131072) (h6 : gL M 6 = L) (h7 : gL M 7 = L) (h11 : gL M 11 = L) (ht : t < L) (h13 : kf + kd.length ≤ gL M 13) (h13' : gL M 13 ≤ 2000000) (hKU : KU ≤ kf) (f17 : gI M 2 17 = Int32.ofNat KU) (v7 : gA M 7 t = Int32.ofNat kd.length) (v6 : gA M 6 t = Int32.ofNat kf) (v13 : ∀ j, j < kd.length → gA M 13 (kf + j) = Int32.ofNat (kd.getD j 0)) (v11 : ∀ j, j < kd.length → kd.getD j 0 < L ∧ gA M 11 (kd.getD j 0) = Int32.ofNat (own.getD j 0)) :
    ∃ M1, m_Terms_move (Int32.ofNat t) m M = m_Terms_move_56 (Int32.ofNat t) m (Int32.ofNat KU) M1 ∧ Fr [13] [(2, 17)] M M1 ∧ gI M1 2 17 = Int32.ofNat (KU + own.length) ∧ ∀ p, gA M1 13 p = if KU ≤ p ∧ p < KU + own.length then Int32.ofNat (own.getD (p - KU) 0) else gA M 13 p := by
  obtain ⟨M1, ⟨h1, h2, h3⟩, h5⟩ := lp0 (b := fun (k : Int32 × Int32 × Int32 × Int32 × MS → Option (MS × Unit)) (i : Int32 × Int32 × Int32 × Int32 × MS) => m_Terms_move_8b k i.1 i.2.1 i.2.2.1 i.2.2.2.1 i.2.2.2.2) (fun i M' => (Int32.ofNat t, m, Int32.ofNat KU, Int32.ofNat i, M')) (fun i M' => Fr [13] [(2, 17)] M M' ∧ gI M' 2 17 = Int32.ofNat (KU + i) ∧ ∀ p, gA M' 13 p = if KU ≤ p ∧ p < KU + i then Int32.ofNat (own.getD (p - KU) 0) else gA M 13 p) (fun M' => m_Terms_move_56 (Int32.ofNat t) m (Int32.ofNat KU) M') (n := kd.length) (by
    intro k i M' hi ⟨h1, h2, h3⟩
    obtain ⟨w1, w2⟩ := v11 i hi
    refine ⟨sI (sA M' 13 (KU + i) (Int32.ofNat (own.getD i 0))) 2 17 (Int32.ofNat (KU + i + 1)), ⟨(h1.tr (Fr.stA (by simp))).tr (Fr.stI (by simp)), by rw [gI_sI, if_pos ⟨rfl, rfl⟩, Nat.add_assoc], fun p => ?_⟩, ?_⟩
    · rw [gA_sI, gA_sA, h3]
      by_cases hp : p = KU + i
      · rw [if_pos ⟨rfl, hp⟩, if_pos (by omega), hp, Nat.add_sub_cancel_left]
      · rw [if_neg (fun q => hp q.2)]
        by_cases hq : KU ≤ p ∧ p < KU + i
        · rw [if_pos hq, if_pos (by omega)]
        · rw [if_neg hq, if_neg (by omega)]
    · show m_Terms_move_8b k (Int32.ofNat t) m (Int32.ofNat KU) (Int32.ofNat i) M' = _
      have ek : m_Terms_kid (Int32.ofNat t) (Int32.ofNat i) M' = some (M', Int32.ofNat (kd.getD i 0)) := by
        unfold m_Terms_kid
        rw [ld_of (by rw [h1.ln]; omega) (by omega), h1.ga (by decide), v6, Option.bind_some, i_add_of, ld_of (by rw [h1.ln]; omega) (by omega), h3, if_neg (by omega), v13 i hi, Option.bind_some]
      unfold m_Terms_move_8b
      rw [ld_of (by rw [h1.ln]; omega) (by omega), h1.ga (by decide), v7, Option.bind_some, if_neg (by rw [i_le_of (by omega) (by omega)]; omega), ek, cal_same]
      show ((ldA M' 11 (Int32.ofNat (kd.getD i 0))).bind fun v3 => (stA M' 13 (gI M' 2 17) v3).bind fun M4 => (some (sI M4 2 17 ((gI M4 2 17) + (1:Int32)))).bind fun M5 => k (Int32.ofNat t, m, Int32.ofNat KU, (Int32.ofNat i + (1:Int32)), M5)) = _
      rw [ld_of (by rw [h1.ln]; omega) (by omega), h1.ga (by decide), w2, Option.bind_some, h2, st_of (by rw [h1.ln]; omega) (by omega), Option.bind_some, Option.bind_some, gI_sA, h2, i_inc, i_inc]) (by
    intro k M' ⟨h1, h2, h3⟩
    show m_Terms_move_8b k (Int32.ofNat t) m (Int32.ofNat KU) (Int32.ofNat kd.length) M' = _
    unfold m_Terms_move_8b
    rw [ld_of (by rw [h1.ln]; omega) (by omega), h1.ga (by decide), v7, Option.bind_some, if_pos (Int32.le_refl _)]) M (by omega) ⟨Fr.rf, f17, fun p => by rw [if_neg (by omega)]⟩
  refine ⟨M1, ?_, h1, by rw [hl]; exact h2, fun p => by rw [hl]; exact h3 p⟩
  unfold m_Terms_move
  rw [f17]
  exact h5
theorem c_move134 {M : MS} {t m KU s L : Nat} {own : List Nat} (hL : L ≤ 131072) (h6 : gL M 6 = L) (h7 : gL M 7 = L) (hm : m < L) (h13 : KU + own.length ≤ gL M 13) (h13' : gL M 13 ≤ 2000000) (v7 : gA M 7 m = Int32.ofNat own.length) (v6 : gA M 6 m = Int32.ofNat KU) (v13 : ∀ j, j < own.length → gA M 13 (KU + j) = Int32.ofNat (own.getD j 0)) :
    m_Terms_move_134 (Int32.ofNat t, Int32.ofNat m, Int32.ofNat s, 0, M) = m_Terms_move_166 (Int32.ofNat t) (Int32.ofNat m) (hc s own) M := by
  obtain ⟨_, _, h5⟩ := lp0 (S := Unit) (b := fun (k : Int32 × Int32 × Int32 × Int32 × MS → Option (MS × Unit)) (i : Int32 × Int32 × Int32 × Int32 × MS) => m_Terms_move_134b k i.1 i.2.1 i.2.2.1 i.2.2.2.1 i.2.2.2.2) (fun i _ => (Int32.ofNat t, Int32.ofNat m, hc s (own.take i), Int32.ofNat i, M)) (fun _ _ => True) (fun _ => m_Terms_move_166 (Int32.ofNat t) (Int32.ofNat m) (hc s own) M) (n := own.length) (by
    intro k i _ hi _
    refine ⟨(), trivial, ?_⟩
    have e : own.take (i + 1) = own.take i ++ [own.getD i 0] := by
      rw [List.take_add_one, List.getD_eq_getElem?_getD, List.getElem?_eq_getElem hi]
      rfl
    have hcs : hc s (own.take (i + 1)) = (hc s (own.take i) + Int32.ofNat (own.getD i 0)) * (-1640531535) := by
      rw [e]
      unfold hc hcF
      rw [List.foldl_append]
      rfl
    show m_Terms_move_134b k (Int32.ofNat t) (Int32.ofNat m) (hc s (own.take i)) (Int32.ofNat i) M = _
    have ek : m_Terms_kid (Int32.ofNat m) (Int32.ofNat i) M = some (M, Int32.ofNat (own.getD i 0)) := by
      unfold m_Terms_kid
      rw [ld_of (by omega) (by omega), v6, Option.bind_some, i_add_of, ld_of (by omega) (by omega), v13 i hi, Option.bind_some]
    unfold m_Terms_move_134b
    rw [ld_of (by omega) (by omega), v7, Option.bind_some, if_neg (by rw [i_le_of (by omega) (by omega)]; omega), ek, cal_same, hcs, i_inc]) (by
    intro k _ _
    show m_Terms_move_134b k (Int32.ofNat t) (Int32.ofNat m) (hc s (own.take own.length)) (Int32.ofNat own.length) M = _
    unfold m_Terms_move_134b
    rw [List.take_length, ld_of (by omega) (by omega), v7, Option.bind_some, if_pos (Int32.le_refl _)]) () (by omega) trivial
  exact h5
theorem c_move204 {M : MS} {t m L : Nat} {w : Nat → Int32} (hL : L ≤ 131072) (h11 : gL M 11 = L) (h12 : gL M 12 = 4 * L) (ht : t < L) (hm : m ≤ t) (hd' : ∀ c, c < 4 → (gA M 12 (4 * t + c) = -1 ∧ w c = -1) ∨ ∃ d, d < L ∧ gA M 12 (4 * t + c) = Int32.ofNat d ∧ gA M 11 d = w c) :
    ∃ M1, m_Terms_move_204 (Int32.ofNat t, Int32.ofNat m, 0, M) = some (M1, ()) ∧ Fr [12] [] M M1 ∧ ∀ p, gA M1 12 p = if 4 * m ≤ p ∧ p < 4 * m + 4 then w (p - 4 * m) else gA M 12 p := by
  obtain ⟨M1, ⟨h1, h2⟩, h5⟩ := lp0 (b := fun (k : Int32 × Int32 × Int32 × MS → Option (MS × Unit)) (i : Int32 × Int32 × Int32 × MS) => m_Terms_move_204b k i.1 i.2.1 i.2.2.1 i.2.2.2) (fun i M' => (Int32.ofNat t, Int32.ofNat m, Int32.ofNat i, M')) (fun i M' => Fr [12] [] M M' ∧ ∀ p, gA M' 12 p = if 4 * m ≤ p ∧ p < 4 * m + i then w (p - 4 * m) else gA M 12 p) (fun M' => some (M', ())) (n := 4) (by
    intro k i M' hi ⟨h1, h2⟩
    have e250 : ∀ z : Int32, z = w i → m_Terms_move_250 k (Int32.ofNat t) (Int32.ofNat m) (Int32.ofNat i) (Int32.ofNat (4 * m + i)) z M' = k (Int32.ofNat t, Int32.ofNat m, Int32.ofNat (i + 1), sA M' 12 (4 * m + i) (w i)) := by
      intro z hz
      unfold m_Terms_move_250
      rw [st_of (by rw [h1.ln]; omega) (by omega), Option.bind_some, i_inc, hz]
    have e12 : gA M' 12 (4 * t + i) = gA M 12 (4 * t + i) := by
      rw [h2, if_neg (by omega)]
    have m4 : ∀ x : Nat, Int32.ofNat x * 4 + Int32.ofNat i = Int32.ofNat (4 * x + i) := fun x => by
      rw [show Int32.ofNat x * 4 = Int32.ofNat (4 * x) from by rw [Nat.mul_comm]; exact i_mul_of _ 4, i_add_of]
    refine ⟨sA M' 12 (4 * m + i) (w i), ⟨h1.tr (Fr.stA (by simp)), fun p => ?_⟩, ?_⟩
    · rw [gA_sA, h2]
      by_cases hp : p = 4 * m + i
      · rw [if_pos ⟨rfl, hp⟩, if_pos (by omega), hp, Nat.add_sub_cancel_left]
      · rw [if_neg (fun q => hp q.2)]
        by_cases hq : 4 * m ≤ p ∧ p < 4 * m + i
        · rw [if_pos hq, if_pos (by omega)]
        · rw [if_neg hq, if_neg (by omega)]
    · show m_Terms_move_204b k (Int32.ofNat t) (Int32.ofNat m) (Int32.ofNat i) M' = _
      unfold m_Terms_move_204b
      rw [if_neg (by rw [show (4 : Int32) = Int32.ofNat 4 from rfl, i_le_of (by omega) (by omega)]; omega), m4, m4, ld_of (by rw [h1.ln]; omega) (by omega), e12, Option.bind_some]
      rcases hd' i hi with ⟨q1, q2⟩ | ⟨d, q1, q2, q3⟩
      · rw [q1, if_neg (fun q => q rfl), e250 _ q2.symm]
      · rw [q2, if_pos (i_nm1 (by omega)), ld_of (by rw [h1.ln]; omega) (by omega), h1.ga (by decide), q3, Option.bind_some, e250 _ rfl]) (by
    intro k M' _
    show m_Terms_move_204b k (Int32.ofNat t) (Int32.ofNat m) (Int32.ofNat 4) M' = _
    unfold m_Terms_move_204b
    rw [if_pos (by decide)]) M (by omega) ⟨Fr.rf, fun p => by rw [if_neg (by omega)]⟩
  exact ⟨M1, h5, h1, h2⟩
/-- move: what stands where behind it -/
theorem c_move {M : MS} {t m KU kf s L : Nat} {kd own : List Nat} {w : Nat → Int32} (hl : own.length = kd.length) (hL : L ≤ 131072) (hLs : gL M 3 = L ∧ gL M 4 = L ∧ gL M 5 = L ∧ gL M 6 = L ∧ gL M 7 = L ∧ gL M 8 = L ∧ gL M 9 = L ∧ gL M 10 = L ∧ gL M 11 = L ∧ gL M 12 = 4 * L ∧ gL M 14 = 1024) (ht : t < L) (hm : m ≤ t) (h13 : kf + kd.length ≤ gL M 13) (h13' : gL M 13 ≤ 2000000) (hKU : KU ≤ kf) (f17 : gI M 2 17 = Int32.ofNat KU) (v7 : gA M 7 t = Int32.ofNat kd.length) (v6 : gA M 6 t = Int32.ofNat kf) (v3 : gA M 3 t = Int32.ofNat s) (v13 : ∀ j, j < kd.length → gA M 13 (kf + j) = Int32.ofNat (kd.getD j 0)) (v11 : ∀ j, j < kd.length → kd.getD j 0 < L ∧ gA M 11 (kd.getD j 0) = Int32.ofNat (own.getD j 0)) (hd' : ∀ c, c < 4 → (gA M 12 (4 * t + c) = -1 ∧ w c = -1) ∨ ∃ d, d < L ∧ gA M 12 (4 * t + c) = Int32.ofNat d ∧ gA M 11 d = w c) :
    ∃ M1, m_Terms_move (Int32.ofNat t) (Int32.ofNat m) M = some (M1, ()) ∧ Fr [3, 4, 5, 6, 7, 8, 9, 10, 12, 13, 14] [(2, 17)] M M1 ∧ gI M1 2 17 = Int32.ofNat (KU + own.length) ∧
      (∀ p, gA M1 13 p = if KU ≤ p ∧ p < KU + own.length then Int32.ofNat (own.getD (p - KU) 0) else gA M 13 p) ∧ (∀ p, gA M1 12 p = if 4 * m ≤ p ∧ p < 4 * m + 4 then w (p - 4 * m) else gA M 12 p) ∧ (∀ p, gA M1 14 p = if p = bk (hc s own) then Int32.ofNat m else gA M 14 p) ∧ (∀ p, gA M1 9 p = if p = m then gA M 14 (bk (hc s own)) else gA M 9 p) ∧ (∀ p, gA M1 8 p = if p = m then hc s own else gA M 8 p) ∧ (∀ p, gA M1 6 p = if p = m then Int32.ofNat KU else gA M 6 p) ∧ (∀ a, a = 3 ∨ a = 4 ∨ a = 5 ∨ a = 7 ∨ a = 10 → ∀ p, gA M1 a p = if p = m then gA M a t else gA M a p) := by
  obtain ⟨e3, e4, e5, e6, e7, e8, e9, e10, e11, e12, e14⟩ := hLs
  obtain ⟨M1, a1, a2, a3, a4⟩ := c_move8 (m := Int32.ofNat m) hl hL e6 e7 e11 ht h13 h13' hKU f17 v7 v6 v13 v11
  have hbk := bk_lt (hc s own)
  have ln := a2.ln
  generalize hM2 : sA (sA (sA (sA (sA (sA M1 6 m (Int32.ofNat KU)) 7 m (gA M 7 t)) 3 m (gA M 3 t)) 4 m (gA M 4 t)) 5 m (gA M 5 t)) 10 m (gA M 10 t) = M2
  have f2 : Fr [3, 4, 5, 6, 7, 10] [] M1 M2 := by
    rw [← hM2]
    exact (((((Fr.stA (by decide)).tr (Fr.stA (by decide))).tr (Fr.stA (by decide))).tr (Fr.stA (by decide))).tr (Fr.stA (by decide))).tr (Fr.stA (by decide))
  have r2 : ∀ a p, gA M2 a p = if a = 10 ∧ p = m then gA M 10 t else if a = 5 ∧ p = m then gA M 5 t else if a = 4 ∧ p = m then gA M 4 t else if a = 3 ∧ p = m then gA M 3 t else if a = 7 ∧ p = m then gA M 7 t else if a = 6 ∧ p = m then Int32.ofNat KU else gA M1 a p := by
    intro a p
    rw [← hM2, gA_sA, gA_sA, gA_sA, gA_sA, gA_sA, gA_sA]
  have e56 : m_Terms_move_56 (Int32.ofNat t) (Int32.ofNat m) (Int32.ofNat KU) M1 = m_Terms_move_134 (Int32.ofNat t, Int32.ofNat m, Int32.ofNat s, 0, M2) := by
    unfold m_Terms_move_56
    rw [st_of (by rw [ln]; omega) (by omega), Option.bind_some]
    rw [ld_of (by rw [gL_sA, ln]; omega) (by omega), gA_sAn (by decide), a2.ga (by decide), Option.bind_some]
    rw [st_of (by rw [gL_sA, ln]; omega) (by omega), Option.bind_some]
    rw [ld_of (by rw [gL_sA, gL_sA, ln]; omega) (by omega), gA_sAn (by decide), gA_sAn (by decide), a2.ga (by decide), Option.bind_some]
    rw [st_of (by rw [gL_sA, gL_sA, ln]; omega) (by omega), Option.bind_some]
    rw [ld_of (by rw [gL_sA, gL_sA, gL_sA, ln]; omega) (by omega), gA_sAn (by decide), gA_sAn (by decide), gA_sAn (by decide), a2.ga (by decide), Option.bind_some]
    rw [st_of (by rw [gL_sA, gL_sA, gL_sA, ln]; omega) (by omega), Option.bind_some]
    rw [ld_of (by rw [gL_sA, gL_sA, gL_sA, gL_sA, ln]; omega) (by omega), gA_sAn (by decide), gA_sAn (by decide), gA_sAn (by decide), gA_sAn (by decide), a2.ga (by decide), Option.bind_some]
    rw [st_of (by rw [gL_sA, gL_sA, gL_sA, gL_sA, ln]; omega) (by omega), Option.bind_some]
    rw [ld_of (by rw [gL_sA, gL_sA, gL_sA, gL_sA, gL_sA, ln]; omega) (by omega), gA_sAn (by decide), gA_sAn (by decide), gA_sAn (by decide), gA_sAn (by decide), gA_sAn (by decide), a2.ga (by decide), Option.bind_some]
    rw [st_of (by rw [gL_sA, gL_sA, gL_sA, gL_sA, gL_sA, ln]; omega) (by omega), Option.bind_some, hM2]
    rw [ld_of (by rw [f2.ln, ln]; omega) (by omega), r2, if_neg (by omega), if_neg (by omega), if_neg (by omega), if_pos ⟨rfl, rfl⟩, v3, Option.bind_some]
  have ln2 : gL M2 = gL M := f2.ln.trans ln
  have e134 := c_move134 (M := M2) (t := t) (m := m) (KU := KU) (s := s) (L := L) (own := own) hL (by rw [ln2]; exact e6) (by rw [ln2]; exact e7) (by omega) (by rw [ln2]; omega) (by rw [ln2]; exact h13') (by rw [r2, if_neg (by omega), if_neg (by omega), if_neg (by omega), if_neg (by omega), if_pos ⟨rfl, rfl⟩, v7, hl]) (by rw [r2, if_neg (by omega), if_neg (by omega), if_neg (by omega), if_neg (by omega), if_neg (by omega), if_pos ⟨rfl, rfl⟩]) (fun j hj => by rw [r2, if_neg (by omega), if_neg (by omega), if_neg (by omega), if_neg (by omega), if_neg (by omega), if_neg (by omega), a4, if_pos (by omega), Nat.add_sub_cancel_left])
  have k14 : gA M2 14 = gA M 14 := by rw [f2.ga (by decide), a2.ga (by decide)]
  have k12 : gA M2 12 = gA M 12 := by rw [f2.ga (by decide), a2.ga (by decide)]
  have k11 : gA M2 11 = gA M 11 := by rw [f2.ga (by decide), a2.ga (by decide)]
  generalize hM3 : sA (sA (sA M2 8 m (hc s own)) 9 m (gA M 14 (bk (hc s own)))) 14 (bk (hc s own)) (Int32.ofNat m) = M3
  have f3 : Fr [8, 9, 14] [] M2 M3 := by
    rw [← hM3]
    exact ((Fr.stA (by decide)).tr (Fr.stA (by decide))).tr (Fr.stA (by decide))
  have ln3 : gL M3 = gL M := f3.ln.trans ln2
  have r3 : ∀ a p, gA M3 a p = if a = 14 ∧ p = bk (hc s own) then Int32.ofNat m else if a = 9 ∧ p = m then gA M 14 (bk (hc s own)) else if a = 8 ∧ p = m then hc s own else gA M2 a p := by
    intro a p
    rw [← hM3, gA_sA, gA_sA, gA_sA]
  obtain ⟨M4, b1, b2, b3⟩ := c_move204 (M := M3) (t := t) (m := m) (w := w) hL (by rw [ln3]; exact e11) (by rw [ln3]; exact e12) ht hm (by
    rw [f3.ga (by decide), f3.ga (by decide), k12, k11]
    exact hd')
  have e166 : m_Terms_move_166 (Int32.ofNat t) (Int32.ofNat m) (hc s own) M2 = some (M4, ()) := by
    unfold m_Terms_move_166
    rw [st_of (by rw [ln2]; omega) (by omega), Option.bind_some, bk_of, ld_of (by rw [gL_sA, ln2]; omega) (by omega), gA_sAn (by decide), k14, Option.bind_some, st_of (by rw [gL_sA, ln2]; omega) (by omega), Option.bind_some, st_of (by rw [gL_sA, gL_sA, ln2]; omega) (by omega), Option.bind_some, hM3]
    exact b1
  have hfr : Fr [3, 4, 5, 6, 7, 8, 9, 10, 12, 13, 14] [(2, 17)] M M4 := (((a2.mono (by decide) (by decide)).tr (f2.mono (by decide) (by decide))).tr (f3.mono (by decide) (by decide))).tr (b2.mono (by decide) (by decide))
  refine ⟨M4, a1.trans (e56.trans (e134.trans e166)), hfr, ?_, fun p => ?_, fun p => ?_, fun p => ?_, fun p => ?_, fun p => ?_, fun p => ?_, fun a ha p => ?_⟩
  · rw [b2.gi (by simp), f3.gi (by simp), f2.gi (by simp)]
    exact a3
  · rw [b2.ga (by decide), f3.ga (by decide), f2.ga (by decide)]
    exact a4 p
  · rw [b3, f3.ga (by decide), k12]
  · rw [b2.ga (by decide), r3, k14]
    by_cases hp : p = bk (hc s own)
    · rw [if_pos ⟨rfl, hp⟩, if_pos hp]
    · rw [if_neg (fun q => hp q.2), if_neg hp, if_neg (by omega), if_neg (by omega)]
  · rw [b2.ga (by decide), r3, if_neg (by omega), f2.ga (by decide), a2.ga (by decide)]
    by_cases hp : p = m
    · rw [if_pos ⟨rfl, hp⟩, if_pos hp]
    · rw [if_neg (fun q => hp q.2), if_neg hp, if_neg (by omega)]
  · rw [b2.ga (by decide), r3, if_neg (by omega), if_neg (by omega), f2.ga (by decide), a2.ga (by decide)]
    by_cases hp : p = m
    · rw [if_pos ⟨rfl, hp⟩, if_pos hp]
    · rw [if_neg (fun q => hp q.2), if_neg hp]
  · rw [b2.ga (by decide), f3.ga (by decide), r2, if_neg (by omega), if_neg (by omega), if_neg (by omega), if_neg (by omega), if_neg (by omega), a2.ga (by decide)]
    by_cases hp : p = m
    · rw [if_pos ⟨rfl, hp⟩, if_pos hp]
    · rw [if_neg (fun q => hp q.2), if_neg hp]
  · rcases ha with rfl | rfl | rfl | rfl | rfl
    · rw [b2.ga (by decide), f3.ga (by decide), r2, a2.ga (by decide)]
      by_cases hp : p = m
      · rw [if_neg (by omega), if_neg (by omega), if_neg (by omega), if_pos ⟨rfl, hp⟩, if_pos hp]
      · rw [if_neg (by omega), if_neg (by omega), if_neg (by omega), if_neg (by omega), if_neg (by omega), if_neg (by omega), if_neg hp]
    · rw [b2.ga (by decide), f3.ga (by decide), r2, a2.ga (by decide)]
      by_cases hp : p = m
      · rw [if_neg (by omega), if_neg (by omega), if_pos ⟨rfl, hp⟩, if_pos hp]
      · rw [if_neg (by omega), if_neg (by omega), if_neg (by omega), if_neg (by omega), if_neg (by omega), if_neg (by omega), if_neg hp]
    · rw [b2.ga (by decide), f3.ga (by decide), r2, a2.ga (by decide)]
      by_cases hp : p = m
      · rw [if_neg (by omega), if_pos ⟨rfl, hp⟩, if_pos hp]
      · rw [if_neg (by omega), if_neg (by omega), if_neg (by omega), if_neg (by omega), if_neg (by omega), if_neg (by omega), if_neg hp]
    · rw [b2.ga (by decide), f3.ga (by decide), r2, a2.ga (by decide)]
      by_cases hp : p = m
      · rw [if_neg (by omega), if_neg (by omega), if_neg (by omega), if_neg (by omega), if_pos ⟨rfl, hp⟩, if_pos hp]
      · rw [if_neg (by omega), if_neg (by omega), if_neg (by omega), if_neg (by omega), if_neg (by omega), if_neg (by omega), if_neg hp]
    · rw [b2.ga (by decide), f3.ga (by decide), r2, a2.ga (by decide)]
      by_cases hp : p = m
      · rw [if_pos ⟨rfl, hp⟩, if_pos hp]
      · rw [if_neg (by omega), if_neg (by omega), if_neg (by omega), if_neg (by omega), if_neg (by omega), if_neg (by omega), if_neg hp]
