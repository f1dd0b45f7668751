/-! STEP 2, the class: node -/
theorem c_add160 {code : Int32} {U : Nat} (hU : U < 131072) : ∀ (d c : Nat) (M : MS) (F : Nat), c + d = 4 → U * 4 + 4 ≤ gL M 12 → d < F → ∃ M1, fx (fun (k : Int32 × Int32 × Int32 × MS → Option (MS × Int32)) (i : Int32 × Int32 × Int32 × MS) => m_Terms_addNode_160b k i.1 i.2.1 i.2.2.1 i.2.2.2) F (code, Int32.ofNat U, Int32.ofNat c, M) = m_Terms_addNode_185 code (Int32.ofNat U) M1 ∧ (∀ p, gA M1 12 p = if U * 4 + c ≤ p ∧ p < U * 4 + 4 then -1 else gA M 12 p) ∧ Fr [12] [] M M1 := by
  intro d
  induction d with
  | zero =>
    intro c M F h1 h2 h3
    have hc : c = 4 := by omega
    subst hc
    cases F with
    | zero => omega
    | succ F =>
      refine ⟨M, ?_, fun p => by rw [if_neg (by omega)], Fr.rf⟩
      show m_Terms_addNode_160b _ code (Int32.ofNat U) (Int32.ofNat 4) M = _
      unfold m_Terms_addNode_160b
      rw [if_pos (by decide)]
  | succ d ih =>
    intro c M F h1 h2 h3
    cases F with
    | zero => omega
    | succ F =>
      obtain ⟨M1, a1, a2, a3⟩ := ih (c + 1) (sA M 12 (U * 4 + c) (-1)) F (by omega) (by rw [gL_sA]; exact h2) (by omega)
      refine ⟨M1, ?_, fun p => ?_, (Fr.stA (by decide)).tr a3⟩
      · refine Eq.trans ?_ a1
        have gen : ∀ k, m_Terms_addNode_160b k code (Int32.ofNat U) (Int32.ofNat c) M = k (code, Int32.ofNat U, Int32.ofNat (c + 1), sA M 12 (U * 4 + c) (-1)) := by
          intro k
          unfold m_Terms_addNode_160b
          rw [if_neg (by rw [show (4 : Int32) = Int32.ofNat 4 from rfl, i_le_of (by omega) (by omega)]; omega), show Int32.ofNat U * 4 = Int32.ofNat (U * 4) from i_mul_of U 4, i_add_of, st_of (by omega) (by omega), Option.bind_some, i_inc]
        exact gen _
      · rw [a2 p, gA_sA]
        by_cases hp : p = U * 4 + c
        · rw [if_neg (by omega), if_pos ⟨rfl, hp⟩, if_pos (by omega)]
        · by_cases hq : U * 4 + (c + 1) ≤ p ∧ p < U * 4 + 4
          · rw [if_pos hq, if_pos (by omega)]
          · rw [if_neg hq, if_neg (by omega), if_neg (by omega)]
/-- addNode: the term is in the table -/
theorem c_addNode {g : TG} {M : MS} {s o it : Nat} {own : List Nat} (h : TI g M) (hs : shp g s own) (hR : isR o it) (hW : RW M o it own) (ho : ∀ k ∈ own, k < tU g) (hl : (txF s (own.map (ttx g))).length ≤ 1000000) (hn : ∀ i, 18 ≤ i → i < tU g → ¬ (tso g i = s ∧ tkd g i = own)) (h3 : tU g < gL M 3) (h13 : tKU g + own.length ≤ gL M 13) :
    ∃ M1, m_Terms_addNode (Int32.ofNat s) o (hc s own) M = some (M1, Int32.ofNat (tU g)) ∧ TI (gadd g s own) M1 ∧ Fr [3, 4, 5, 6, 7, 8, 9, 10, 12, 13, 14] [(2, 16), (2, 17)] M M1 ∧ (∀ p, p < 4 * tU g → gA M1 12 p = gA M 12 p) := by
  have hlt := h.2.1.lt
  obtain ⟨hB, ⟨⟨m1, m2⟩, ⟨m3, m4⟩, ⟨l4, l5, l6, l7, l8, l9, l10, l11, l12, l14⟩, ⟨k1, k2, k3⟩, mi⟩, ⟨q1, q2⟩, hA, hT⟩ := id h
  have hrm := rooms_le m4
  have hslt := hs.lt
  have hwl := hW.2.1
  have hwl2 := hW.2.2.2.1
  have hbk := bk_lt (hc s own)
  have hlen := txF_len hB hs ho
  have hnw := nw_txF hB hs ho
  have hB' := hB.add hs ho hl hn
  have hE := TE.add g s own
  -- the first four writes
  generalize hM5 : sA (sA (sA (sI M 2 16 (Int32.ofNat (tU g + 1))) 3 (tU g) (Int32.ofNat s)) 6 (tU g) (Int32.ofNat (tKU g))) 7 (tU g) (Int32.ofNat own.length) = M5
  have hf5 : Fr [3, 6, 7] [(2, 16)] M M5 := by
    rw [← hM5]
    exact (((Fr.stI (by decide)).tr (Fr.stA (by decide))).tr (Fr.stA (by decide))).tr (Fr.stA (by decide))
  have it3 : it ∉ [3, 6, 7] := by rcases hR with ⟨rfl, rfl⟩ | ⟨rfl, rfl⟩ | ⟨rfl, rfl⟩ | ⟨rfl, rfl⟩ | ⟨rfl, rfl⟩ <;> decide
  have o16 : (o, 1) ∉ [(2, 16)] := by rcases hR with ⟨rfl, rfl⟩ | ⟨rfl, rfl⟩ | ⟨rfl, rfl⟩ | ⟨rfl, rfl⟩ | ⟨rfl, rfl⟩ <;> decide
  have r5 : ∀ a p, gA M5 a p = if a = 7 ∧ p = tU g then Int32.ofNat own.length else if a = 6 ∧ p = tU g then Int32.ofNat (tKU g) else if a = 3 ∧ p = tU g then Int32.ofNat s else gA M a p := by
    intro a p
    rw [← hM5, gA_sA, gA_sA, gA_sA, gA_sI]
  have i5 : gI M5 2 16 = Int32.ofNat (tU g + 1) ∧ gI M5 2 17 = Int32.ofNat (tKU g) := by
    rw [← hM5]
    constructor
    · show gI (sI M 2 16 _) 2 16 = _
      rw [gI_sI, if_pos ⟨rfl, rfl⟩]
    · show gI (sI M 2 16 _) 2 17 = _
      rw [gI_sI, if_neg (by omega)]
      exact m2
  have hW5 := hW.fc (FC.of hf5) it3 o16
  have hl5 := hf5.ln
  obtain ⟨M6, a1, a2, a3, a4, a5⟩ := c_add55 (g := g) (M0 := M5) (s := s) (U := tU g) (KU := tKU g) (code := hc s own) hB hR hW5 ho (by rw [hl5]; exact h13) (by rw [hl5]; exact k3) (by rw [hl5]; omega) (by rw [hl5]; omega) (by omega) (by omega) (fun i hi => by rw [r5, if_neg (by omega), if_neg (by omega), if_neg (by omega)]; exact (mi i hi).2.1) (fun i hi => by rw [r5, if_neg (by omega), if_neg (by omega), if_neg (by omega)]; exact (mi i hi).2.2.1) own [] M5 FU rfl i5.2 (fun j hj => by simp at hj) (fun p _ => rfl) Fr.rf (by unfold FU; omega)
  have it13 : it ∉ [13] := by rcases hR with ⟨rfl, rfl⟩ | ⟨rfl, rfl⟩ | ⟨rfl, rfl⟩ | ⟨rfl, rfl⟩ | ⟨rfl, rfl⟩ <;> decide
  have o17 : (o, 1) ∉ [(2, 17)] := by rcases hR with ⟨rfl, rfl⟩ | ⟨rfl, rfl⟩ | ⟨rfl, rfl⟩ | ⟨rfl, rfl⟩ | ⟨rfl, rfl⟩ <;> decide
  have hW6 := hW5.fc (FC.of a5) it13 o17
  have hl6 := a5.ln
  -- size and empty word
  generalize hM8 : sA (sA M6 4 (tU g) (Int32.ofNat (1 + sumL g own))) 5 (tU g) (b01 (nwB s (cntN g own) own.length)) = M8
  have hf8 : Fr [4, 5] [] M6 M8 := by
    rw [← hM8]
    exact (Fr.stA (by decide)).tr (Fr.stA (by decide))
  have r8 : ∀ a p, gA M8 a p = if a = 5 ∧ p = tU g then b01 (nwB s (cntN g own) own.length) else if a = 4 ∧ p = tU g then Int32.ofNat (1 + sumL g own) else gA M6 a p := by
    intro a p
    rw [← hM8, gA_sA, gA_sA]
  have hl8 := hf8.ln
  obtain ⟨M9, b1, b2, b3⟩ := c_add160 (code := hc s own) (U := tU g) (by omega) 4 0 M8 FU rfl (by rw [hl8, hl6, hl5]; omega) (by unfold FU; omega)
  have hl9 := b3.ln
  have r9 : ∀ a p, a ≠ 12 → a ≠ 13 → gA M9 a p = if a = 5 ∧ p = tU g then b01 (nwB s (cntN g own) own.length) else if a = 4 ∧ p = tU g then Int32.ofNat (1 + sumL g own) else if a = 7 ∧ p = tU g then Int32.ofNat own.length else if a = 6 ∧ p = tU g then Int32.ofNat (tKU g) else if a = 3 ∧ p = tU g then Int32.ofNat s else gA M a p := by
    intro a p h12 h13
    rw [b3.ga (by simpa using h12), r8, a5.ga (by simpa using h13), r5]
  have r9k : ∀ p, p < tKU g → gA M9 13 p = gA M 13 p := fun p hp => by
    rw [b3.ga (by decide), r8, if_neg (by omega), if_neg (by omega), a4 p hp, r5, if_neg (by omega), if_neg (by omega), if_neg (by omega)]
  have r9n : ∀ j, j < own.length → gA M9 13 (tKU g + j) = Int32.ofNat (own.getD j 0) := fun j hj => by
    rw [b3.ga (by decide), r8, if_neg (by omega), if_neg (by omega), a3 j hj]
  have r9a : ∀ p, gA M9 12 p = if tU g * 4 ≤ p ∧ p < tU g * 4 + 4 then -1 else gA M 12 p := fun p => by
    rw [b2 p, r8, if_neg (show ¬ (12 = 5 ∧ p = tU g) by omega), if_neg (show ¬ (12 = 4 ∧ p = tU g) by omega), a5.ga (by decide), r5, if_neg (show ¬ (12 = 7 ∧ p = tU g) by omega), if_neg (show ¬ (12 = 6 ∧ p = tU g) by omega), if_neg (show ¬ (12 = 3 ∧ p = tU g) by omega), Nat.add_zero]
  have i9 : gI M9 2 16 = Int32.ofNat (tU g + 1) ∧ gI M9 2 17 = Int32.ofNat (tKU g + own.length) := by
    constructor
    · rw [b3.gi (by decide), hf8.gi (by decide), a5.gi (by decide)]; exact i5.1
    · rw [b3.gi (by decide), hf8.gi (by decide)]; exact a2
  have hfr9 : Fr [3, 4, 5, 6, 7, 8, 9, 10, 12, 13, 14] [(2, 16), (2, 17)] M M9 := (((hf5.mono (by decide) (by decide)).tr (a5.mono (by decide) (by decide))).tr (hf8.mono (by decide) (by decide))).tr (b3.mono (by decide) (by decide))
  have hl9' : gL M9 = gL M := hfr9.ln
  -- tag, code, link and head
  generalize hMf : sA (sA (sA (sA M9 10 (tU g) 0) 8 (tU g) (hc s own)) 9 (tU g) (gA M 14 (bk (hc s own)))) 14 (bk (hc s own)) (Int32.ofNat (tU g)) = Mf
  have rf : ∀ a p, gA Mf a p = if a = 14 ∧ p = bk (hc s own) then Int32.ofNat (tU g) else if a = 9 ∧ p = tU g then gA M 14 (bk (hc s own)) else if a = 8 ∧ p = tU g then hc s own else if a = 10 ∧ p = tU g then 0 else gA M9 a p := by
    intro a p
    rw [← hMf, gA_sA, gA_sA, gA_sA, gA_sA]
  have hff : Fr [3, 4, 5, 6, 7, 8, 9, 10, 12, 13, 14] [(2, 16), (2, 17)] M Mf := by
    rw [← hMf]
    exact (((hfr9.tr (Fr.stA (by decide))).tr (Fr.stA (by decide))).tr (Fr.stA (by decide))).tr (Fr.stA (by decide))
  have hif : gI Mf = gI M9 := by rw [← hMf]; rfl
  have hlf := hff.ln
  have g14 : gA M9 14 (bk (hc s own)) = gA M 14 (bk (hc s own)) := by
    rw [r9 14 _ (by decide) (by decide), if_neg (by omega), if_neg (by omega), if_neg (by omega), if_neg (by omega), if_neg (by omega)]
  refine ⟨Mf, ?_, ⟨hB', ⟨⟨?_, ?_⟩, ⟨?_, ?_⟩, ?_, ⟨?_, ?_, ?_⟩, fun i hi => ?_⟩, ⟨fun i h18 hi => ?_, fun b hb => ?_⟩, fun i c hi hc4 => ?_, fun i hi => ?_⟩, hff, fun p hp => by rw [rf, if_neg (by omega), if_neg (by omega), if_neg (by omega), if_neg (by omega), r9a, if_neg (by omega)]⟩
  · have e185 : m_Terms_addNode_185 (hc s own) (Int32.ofNat (tU g)) M9 = some (Mf, Int32.ofNat (tU g)) := by
      unfold m_Terms_addNode_185
      rw [st_of (by rw [hl9']; omega) (by omega), Option.bind_some, st_of (by rw [gL_sA, hl9']; omega) (by omega), Option.bind_some, bk_of, ld_of (by rw [gL_sA, gL_sA, hl9']; omega) (by omega), Option.bind_some, gA_sA, if_neg (by omega), gA_sA, if_neg (by omega), g14, st_of (by rw [gL_sA, gL_sA, hl9']; omega) (by omega), Option.bind_some, st_of (by rw [gL_sA, gL_sA, gL_sA, hl9']; omega) (by omega), Option.bind_some, hMf]
    have e123 : m_Terms_addNode_123 (Int32.ofNat s) o (hc s own) (Int32.ofNat (tU g)) (Int32.ofNat (1 + sumL g own)) (Int32.ofNat (cntN g own)) M6 = some (Mf, Int32.ofNat (tU g)) := by
      have hcl := cntN_le g own
      have hW7 : RW (sA M6 4 (tU g) (Int32.ofNat (1 + sumL g own))) o it own := hW6.fc (R := [4]) (F := []) (FC.of (Fr.stA (by decide))) (by rcases hR with ⟨rfl, rfl⟩ | ⟨rfl, rfl⟩ | ⟨rfl, rfl⟩ | ⟨rfl, rfl⟩ | ⟨rfl, rfl⟩ <;> decide) (by simp)
      unfold m_Terms_addNode_123
      rw [st_of (by rw [hl6, hl5]; omega) (by omega), Option.bind_some, c_size hR hW7, cal_same, c_nullW (by omega) (by omega) (by omega), cal_same]
      have e156 : ∀ z : Int32, z = b01 (nwB s (cntN g own) own.length) → m_Terms_addNode_156 (hc s own) (Int32.ofNat (tU g)) (Int32.ofNat (tU g)) z (sA M6 4 (tU g) (Int32.ofNat (1 + sumL g own))) = some (Mf, Int32.ofNat (tU g)) := by
        intro z hz
        unfold m_Terms_addNode_156
        rw [st_of (by rw [gL_sA, hl6, hl5]; omega) (by omega), Option.bind_some, hz, hM8]
        exact b1.trans e185
      cases hb : nwB s (cntN g own) own.length with
      | true => rw [if_neg (by show ¬ b01 true = 0; decide)]; exact e156 1 (by rw [hb]; rfl)
      | false => rw [if_pos (by show b01 false = 0; decide)]; exact e156 0 (by rw [hb]; rfl)
    unfold m_Terms_addNode
    rw [if_pos hR.kd.1, m1, i_inc, Option.bind_some, st_of (by show _ < gL M 3; exact h3) (by omega), Option.bind_some, show gI (sA (sI M 2 16 (Int32.ofNat (tU g + 1))) 3 (tU g) (Int32.ofNat s)) 2 17 = Int32.ofNat (tKU g) by (show gI (sI M 2 16 _) 2 17 = _; rw [gI_sI, if_neg (by omega)]; exact m2), st_of (by show _ < gL M 6; omega) (by omega), Option.bind_some]
    have hW4 : RW (sA (sA (sI M 2 16 (Int32.ofNat (tU g + 1))) 3 (tU g) (Int32.ofNat s)) 6 (tU g) (Int32.ofNat (tKU g))) o it own := hW.fc (R := [3, 6, 7]) (F := [(2, 16)]) (FC.of (((Fr.stI (by decide)).tr (Fr.stA (by decide))).tr (Fr.stA (by decide)))) it3 o16
    rw [c_size hR hW4, cal_same, st_of (by show _ < gL M 7; omega) (by omega), Option.bind_some, hM5]
    exact a1.trans e123
  · rw [hif]; exact i9.1
  · rw [hif]; exact i9.2
  · rw [hlf]; exact h3
  · rw [hlf]; exact m4
  · rw [hlf]; exact ⟨l4, l5, l6, l7, l8, l9, l10, l11, l12, l14⟩
  · rw [hlf]; exact h13
  · rw [hlf]; exact k2
  · rw [hlf]; exact k3
  · have hi : i < tU g + 1 := hi
    by_cases hiU : i = tU g
    · subst hiU
      have e1 : tso (gadd g s own) (tU g) = s := updN_eq _ _ _
      have e2 : tkd (gadd g s own) (tU g) = own := updN_eq _ _ _
      have e3 : ttx (gadd g s own) (tU g) = txF s (own.map (ttx g)) := updN_eq _ _ _
      have e4 : tkf (gadd g s own) (tU g) = tKU g := updN_eq _ _ _
      have e5 : tKU (gadd g s own) = tKU g + own.length := rfl
      rw [e1, e2, e3, e4, e5, hlen, hnw]
      refine ⟨?_, ?_, ?_, ?_, ?_, Nat.le_refl _, fun j hj => ?_⟩
      · rw [rf, if_neg (by omega), if_neg (by omega), if_neg (by omega), if_neg (by omega), r9 3 _ (by decide) (by decide), if_neg (by omega), if_neg (by omega), if_neg (by omega), if_neg (by omega), if_pos ⟨rfl, rfl⟩]
      · rw [rf, if_neg (by omega), if_neg (by omega), if_neg (by omega), if_neg (by omega), r9 4 _ (by decide) (by decide), if_neg (by omega), if_pos ⟨rfl, rfl⟩]
      · rw [rf, if_neg (by omega), if_neg (by omega), if_neg (by omega), if_neg (by omega), r9 5 _ (by decide) (by decide), if_pos ⟨rfl, rfl⟩]
      · rw [rf, if_neg (by omega), if_neg (by omega), if_neg (by omega), if_neg (by omega), r9 6 _ (by decide) (by decide), if_neg (by omega), if_neg (by omega), if_neg (by omega), if_pos ⟨rfl, rfl⟩]
      · rw [rf, if_neg (by omega), if_neg (by omega), if_neg (by omega), if_neg (by omega), r9 7 _ (by decide) (by decide), if_neg (by omega), if_neg (by omega), if_pos ⟨rfl, rfl⟩]
      · rw [rf, if_neg (by omega), if_neg (by omega), if_neg (by omega), if_neg (by omega)]
        exact r9n j hj
    · have hi2 : i < tU g := by omega
      obtain ⟨e1, e2, e3, e4, -⟩ := hE.2.2 i hi2
      obtain ⟨x3, x4, x5, x6, x7, x8, x9⟩ := mi i hi2
      have keep : ∀ a, a ≠ 12 → a ≠ 13 → a ≠ 14 → a ≠ 8 → a ≠ 9 → a ≠ 10 → gA Mf a i = gA M a i := fun a c1 c2 c3 c4 c5 c6 => by
        rw [rf, if_neg (by omega), if_neg (by omega), if_neg (by omega), if_neg (by omega), r9 a _ c1 c2, if_neg (by omega), if_neg (by omega), if_neg (by omega), if_neg (by omega), if_neg (by omega)]
      rw [e1, e2, e3, e4, keep 3 (by decide) (by decide) (by decide) (by decide) (by decide) (by decide), keep 4 (by decide) (by decide) (by decide) (by decide) (by decide) (by decide), keep 5 (by decide) (by decide) (by decide) (by decide) (by decide) (by decide), keep 6 (by decide) (by decide) (by decide) (by decide) (by decide) (by decide), keep 7 (by decide) (by decide) (by decide) (by decide) (by decide) (by decide)]
      refine ⟨x3, x4, x5, x6, x7, Nat.le_trans x8 hE.2.1, fun j hj => ?_⟩
      rw [rf, if_neg (by omega), if_neg (by omega), if_neg (by omega), if_neg (by omega), r9k _ (by omega)]
      exact x9 j hj
  · have hi : i < tU g + 1 := hi
    rw [rf, if_neg (by omega), if_neg (by omega)]
    by_cases hiU : i = tU g
    · subst hiU
      have e1 : tso (gadd g s own) (tU g) = s := updN_eq _ _ _
      have e2 : tkd (gadd g s own) (tU g) = own := updN_eq _ _ _
      rw [if_pos ⟨rfl, rfl⟩, e1, e2]
    · obtain ⟨e1, e2, -⟩ := hE.2.2 i (by omega)
      rw [if_neg (by omega), if_neg (by omega), r9 8 _ (by decide) (by decide), if_neg (by omega), if_neg (by omega), if_neg (by omega), if_neg (by omega), if_neg (by omega), e1, e2]
      exact q1 i h18 (by omega)
  · obtain ⟨l, c1, c2, c3, c4⟩ := q2 b hb
    have k9 : ∀ i ∈ l, gA Mf 9 i = gA M 9 i := fun i hi => by
      have := c3 i hi
      rw [rf, if_neg (by omega), if_neg (by omega), if_neg (by omega), if_neg (by omega), r9 9 _ (by decide) (by decide), if_neg (by omega), if_neg (by omega), if_neg (by omega), if_neg (by omega), if_neg (by omega)]
    have k8 : ∀ i, i < tU g → gA Mf 8 i = gA M 8 i := fun i hi => by
      rw [rf, if_neg (by omega), if_neg (by omega), if_neg (by omega), if_neg (by omega), r9 8 _ (by decide) (by decide), if_neg (by omega), if_neg (by omega), if_neg (by omega), if_neg (by omega), if_neg (by omega)]
    by_cases hbb : b = bk (hc s own)
    · subst hbb
      refine ⟨tU g :: l, ⟨?_, ?_⟩, List.nodup_cons.mpr ⟨fun hm => by have := c3 _ hm; omega, c2⟩, fun i hi => ?_, fun i h18 hi hbk2 => ?_⟩
      · rw [rf, if_pos ⟨rfl, rfl⟩]
      · rw [rf, if_neg (by omega), if_pos ⟨rfl, rfl⟩]
        exact cH_keep k9 c1
      · show 18 ≤ i ∧ i < tU g + 1
        rcases List.mem_cons.mp hi with rfl | hi
        · have := hB.1; omega
        · have := c3 i hi; omega
      · have hi : i < tU g + 1 := hi
        by_cases hiU : i = tU g
        · rw [hiU]; exact List.mem_cons_self
        · rw [k8 i (by omega)] at hbk2
          exact List.mem_cons_of_mem _ (c4 i h18 (by omega) hbk2)
    · refine ⟨l, ?_, c2, fun i hi => ?_, fun i h18 hi hbk2 => ?_⟩
      · rw [rf, if_neg (by omega), if_neg (by omega), if_neg (by omega), if_neg (by omega), r9 14 _ (by decide) (by decide), if_neg (by omega), if_neg (by omega), if_neg (by omega), if_neg (by omega), if_neg (by omega)]
        exact cH_keep k9 c1
      · show 18 ≤ i ∧ i < tU g + 1
        have := c3 i hi; omega
      · have hi : i < tU g + 1 := hi
        by_cases hiU : i = tU g
        · rw [hiU, rf, if_neg (by omega), if_neg (by omega), if_pos ⟨rfl, rfl⟩] at hbk2
          exact absurd hbk2.symm hbb
        · rw [k8 i (by omega)] at hbk2
          exact c4 i h18 (by omega) hbk2
  · have hi : i < tU g + 1 := hi
    rw [rf, if_neg (by omega), if_neg (by omega), if_neg (by omega), if_neg (by omega), r9a]
    by_cases hiU : i = tU g
    · left
      rw [if_pos (by omega)]
    · rw [if_neg (by omega), hE.tx (by omega)]
      rcases hA i c (by omega) hc4 with q | ⟨d, d1, d2, d3⟩
      · exact Or.inl q
      · exact Or.inr ⟨d, Nat.lt_succ_of_lt d1, d2, by rw [hE.tx d1]; exact d3⟩
  · have hi : i < tU g + 1 := hi
    rw [rf, if_neg (by omega), if_neg (by omega), if_neg (by omega)]
    by_cases hiU : i = tU g
    · subst hiU
      have e5 : ttg (gadd g s own) (tU g) = 0 := updN_eq _ _ _
      rw [if_pos ⟨rfl, rfl⟩, e5]
      exact ⟨rfl, by omega⟩
    · rw [if_neg (by omega), r9 10 _ (by decide) (by decide), if_neg (by omega), if_neg (by omega), if_neg (by omega), if_neg (by omega), if_neg (by omega), (hE.2.2 i (by omega)).2.2.2.2]
      exact hT i (by omega)
/-- node: the term of this sort with these kids is in the table then -/
theorem c_node {g : TG} {M : MS} {s o it : Nat} {own : List Nat} (h : TI g M) (hG : GD M) (hs : shp g s own) (hR : isR o it) (hW : RW M o it own) (ho : ∀ k ∈ own, k < tU g) (hl : (txF s (own.map (ttx g))).length ≤ 1000000) (hU : tU g < 131072) (hK : tKU g + own.length ≤ 1000000) :
    ∃ M1 g' i, m_Terms_node (Int32.ofNat s) o M = some (M1, Int32.ofNat i) ∧ TI g' M1 ∧ TE g g' ∧ i < tU g' ∧ 18 ≤ i ∧ ttx g' i = txF s (own.map (ttx g)) ∧ tso g' i = s ∧ tkd g' i = own ∧ tU g' ≤ tU g + 1 ∧ tKU g' ≤ tKU g + own.length ∧ FC [3, 4, 5, 6, 7, 8, 9, 10, 11, 12, 13, 14] [(2, 16), (2, 17)] M M1 ∧ gL M1 13 ≤ max (gL M 13) (2 * (tKU g + own.length)) ∧ (∀ p, p < 4 * tU g → gA M1 12 p = gA M 12 p) := by
  have hlt := h.2.1.lt
  rcases c_look h hs.lt.2 hR hW ho with ⟨i, i1, i2, i3, i4, i5⟩ | ⟨i1, i2⟩
  · refine ⟨M, g, i, i5, h, TE.rf, i2, i1, ?_, i3, i4, by omega, by omega, FC.rf, by omega, fun _ _ => rfl⟩
    rw [(h.1.2.2.2.2.1 i i1 i2).2.2, i3, i4]
  · obtain ⟨M1, r1, r2, r3, r4, r5, r6, r7, r8⟩ := c_room h hG hU hK
    have hW1 : RW M1 o it own := hW.fc r5 (by rcases hR with ⟨rfl, rfl⟩ | ⟨rfl, rfl⟩ | ⟨rfl, rfl⟩ | ⟨rfl, rfl⟩ | ⟨rfl, rfl⟩ <;> decide) (by simp)
    obtain ⟨M2, a1, a2, a3, a4⟩ := c_addNode r2 hs hR hW1 ho hl i1 r3 r4
    have hfc : FC [3, 4, 5, 6, 7, 8, 9, 10, 11, 12, 13, 14] [(2, 16), (2, 17)] M M2 := (r5.mono (by decide) (by decide)).tr (FC.of (a3.mono (by decide) (by decide)))
    refine ⟨M2, gadd g s own, tU g, ?_, a2, TE.add g s own, Nat.lt_succ_self _, h.1.1, updN_eq _ _ _, updN_eq _ _ _, updN_eq _ _ _, Nat.le_refl _, Nat.le_refl _, hfc, by rw [a3.ln]; exact r6, fun p hp => (a4 p hp).trans (r8 p hp)⟩
    rw [i2]
    unfold m_Terms_node_111
    rw [c_size hR hW, cal_same, cal_some r1 r5.le.1 r5.le.2, cal_some a1 a3.le.1 a3.le.2]
