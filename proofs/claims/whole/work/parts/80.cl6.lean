/-! STEP 2, the class: room for one more term -/
/-- rows have grown; what was in them is there -/
def GW (M M1 : MS) : Prop := (∀ a k, k < gL M a → gA M1 a k = gA M a k) ∧ (∀ a, gL M a ≤ gL M1 a) ∧ gI M1 = gI M ∧ gJ M1 = gJ M ∧ gD M1 = gD M
theorem GW.rf {M : MS} : GW M M := ⟨fun _ _ _ => rfl, fun _ => Nat.le_refl _, rfl, rfl, rfl⟩
theorem GW.tr {M M1 M2 : MS} (h : GW M M1) (h2 : GW M1 M2) : GW M M2 := ⟨fun a k hk => (h2.1 a k (Nat.lt_of_lt_of_le hk (h.2.1 a))).trans (h.1 a k hk), fun a => Nat.le_trans (h.2.1 a) (h2.2.1 a), h2.2.2.1.trans h.2.2.1, h2.2.2.2.1.trans h.2.2.2.1, h2.2.2.2.2.trans h.2.2.2.2⟩
theorem GW.gG {M : MS} {a n : Nat} (h : gL M a ≤ n) : GW M (gG M a n) := by
  refine ⟨fun b k hk => ?_, fun b => ?_, rfl, rfl, rfl⟩
  · rw [gA_gG]
    by_cases hb : b = a
    · subst hb
      rw [if_pos rfl, if_pos hk]
    · rw [if_neg hb]
  · rw [gL_gG]
    by_cases hb : b = a
    · subst hb
      rw [if_pos rfl]; exact h
    · rw [if_neg hb]; exact Nat.le_refl _
theorem cH_keep {M M1 : MS} : ∀ {l : List Nat} {h : Int32}, (∀ i ∈ l, gA M1 9 i = gA M 9 i) → cH M h l → cH M1 h l := by
  intro l
  induction l with
  | nil => intro h _ hh; exact hh
  | cons i r ih =>
    intro h hk hh
    refine ⟨hh.1, ?_⟩
    rw [hk i List.mem_cons_self]
    exact ih (fun j hj => hk j (List.mem_cons_of_mem _ hj)) hh.2
theorem TI.grow {g : TG} {M M1 : MS} (h : TI g M) (hw : GW M M1) (h3 : gL M1 3 ∈ rooms) (hl : gL M1 4 = gL M1 3 ∧ gL M1 5 = gL M1 3 ∧ gL M1 6 = gL M1 3 ∧ gL M1 7 = gL M1 3 ∧ gL M1 8 = gL M1 3 ∧ gL M1 9 = gL M1 3 ∧ gL M1 10 = gL M1 3 ∧ gL M1 11 = gL M1 3 ∧ gL M1 12 = 4 * gL M1 3 ∧ gL M1 14 = 1024) (h13 : gL M1 13 ≤ 2000000) : TI g M1 := by
  obtain ⟨hB, ⟨⟨m1, m2⟩, ⟨m3, m4⟩, ⟨l4, l5, l6, l7, l8, l9, l10, l11, l12, l14⟩, ⟨k1, k2, k3⟩, mi⟩, ⟨q1, q2⟩, hA, hT⟩ := h
  have w3 := hw.2.1 3
  have w13 := hw.2.1 13
  refine ⟨hB, ⟨⟨by rw [hw.2.2.1]; exact m1, by rw [hw.2.2.1]; exact m2⟩, ⟨by omega, h3⟩, hl, ⟨by omega, by omega, h13⟩, fun i hi => ?_⟩, ⟨fun i h18 hi => ?_, fun b hb => ?_⟩, fun i c hi hc => ?_, fun i hi => ?_⟩
  · obtain ⟨a3, a4, a5, a6, a7, a8, a9⟩ := mi i hi
    rw [hw.1 3 i (by omega), hw.1 4 i (by omega), hw.1 5 i (by omega), hw.1 6 i (by omega), hw.1 7 i (by omega)]
    refine ⟨a3, a4, a5, a6, a7, a8, fun j hj => ?_⟩
    rw [hw.1 13 _ (by omega)]
    exact a9 j hj
  · rw [hw.1 8 i (by omega)]
    exact q1 i h18 hi
  · obtain ⟨l, c1, c2, c3, c4⟩ := q2 b hb
    refine ⟨l, ?_, c2, c3, fun i h18 hi hbk => c4 i h18 hi ?_⟩
    · rw [hw.1 14 b (by omega)]
      exact cH_keep (fun i hi => hw.1 9 i (by have := c3 i hi; omega)) c1
    · rw [hw.1 8 i (by omega)] at hbk
      exact hbk
  · rw [hw.1 12 _ (by omega)]
    exact hA i c hi hc
  · rw [hw.1 10 i (by omega)]
    exact hT i hi
def g10 (M : MS) (n : Nat) : MS := gG (gG (gG (gG (gG (gG (gG (gG (gG (gG M 3 n) 4 n) 5 n) 6 n) 7 n) 8 n) 9 n) 10 n) 11 n) 12 (n * 4)
theorem gL_gGn {M : MS} {a b n : Nat} (h : b ≠ a) : gL (gG M a n) b = gL M b := by rw [gL_gG, if_neg h]
theorem gA_gGn {M : MS} {a b n : Nat} (h : b ≠ a) : gA (gG M a n) b = gA M b := by
  funext k
  rw [gA_gG, if_neg h]
theorem gL_g10 {M : MS} {n : Nat} (a : Nat) : gL (g10 M n) a = if a = 12 then n * 4 else if 3 ≤ a ∧ a ≤ 11 then n else gL M a := by
  unfold g10
  by_cases h12 : a = 12
  · subst h12
    rw [gL_gG, if_pos rfl, if_pos rfl]
  by_cases h11 : a = 11
  · subst h11
    rw [gL_gGn (by decide), gL_gG, if_pos rfl, if_neg (by decide), if_pos (by decide)]
  by_cases h10 : a = 10
  · subst h10
    rw [gL_gGn (by decide), gL_gGn (by decide), gL_gG, if_pos rfl, if_neg (by decide), if_pos (by decide)]
  by_cases h9 : a = 9
  · subst h9
    rw [gL_gGn (by decide), gL_gGn (by decide), gL_gGn (by decide), gL_gG, if_pos rfl, if_neg (by decide), if_pos (by decide)]
  by_cases h8 : a = 8
  · subst h8
    rw [gL_gGn (by decide), gL_gGn (by decide), gL_gGn (by decide), gL_gGn (by decide), gL_gG, if_pos rfl, if_neg (by decide), if_pos (by decide)]
  by_cases h7 : a = 7
  · subst h7
    rw [gL_gGn (by decide), gL_gGn (by decide), gL_gGn (by decide), gL_gGn (by decide), gL_gGn (by decide), gL_gG, if_pos rfl, if_neg (by decide), if_pos (by decide)]
  by_cases h6 : a = 6
  · subst h6
    rw [gL_gGn (by decide), gL_gGn (by decide), gL_gGn (by decide), gL_gGn (by decide), gL_gGn (by decide), gL_gGn (by decide), gL_gG, if_pos rfl, if_neg (by decide), if_pos (by decide)]
  by_cases h5 : a = 5
  · subst h5
    rw [gL_gGn (by decide), gL_gGn (by decide), gL_gGn (by decide), gL_gGn (by decide), gL_gGn (by decide), gL_gGn (by decide), gL_gGn (by decide), gL_gG, if_pos rfl, if_neg (by decide), if_pos (by decide)]
  by_cases h4 : a = 4
  · subst h4
    rw [gL_gGn (by decide), gL_gGn (by decide), gL_gGn (by decide), gL_gGn (by decide), gL_gGn (by decide), gL_gGn (by decide), gL_gGn (by decide), gL_gGn (by decide), gL_gG, if_pos rfl, if_neg (by decide), if_pos (by decide)]
  by_cases h3 : a = 3
  · subst h3
    rw [gL_gGn (by decide), gL_gGn (by decide), gL_gGn (by decide), gL_gGn (by decide), gL_gGn (by decide), gL_gGn (by decide), gL_gGn (by decide), gL_gGn (by decide), gL_gGn (by decide), gL_gG, if_pos rfl, if_neg (by decide), if_pos (by decide)]
  rw [gL_gGn h12, gL_gGn h11, gL_gGn h10, gL_gGn h9, gL_gGn h8, gL_gGn h7, gL_gGn h6, gL_gGn h5, gL_gGn h4, gL_gGn h3, if_neg h12, if_neg (by omega)]
theorem g10_gw {M : MS} {n : Nat} (h3 : gL M 3 ≤ n) (h4 : gL M 4 ≤ n) (h5 : gL M 5 ≤ n) (h6 : gL M 6 ≤ n) (h7 : gL M 7 ≤ n) (h8 : gL M 8 ≤ n) (h9 : gL M 9 ≤ n) (h10 : gL M 10 ≤ n) (h11 : gL M 11 ≤ n) (h12 : gL M 12 ≤ n * 4) : GW M (g10 M n) := by
  unfold g10
  refine (((((((((GW.gG (a := 3) h3).tr (GW.gG (a := 4) ?_)).tr (GW.gG (a := 5) ?_)).tr (GW.gG (a := 6) ?_)).tr (GW.gG (a := 7) ?_)).tr (GW.gG (a := 8) ?_)).tr (GW.gG (a := 9) ?_)).tr (GW.gG (a := 10) ?_)).tr (GW.gG (a := 11) ?_)).tr (GW.gG (a := 12) ?_)
  · rw [gL_gGn (by decide)]; exact h4
  · rw [gL_gGn (by decide), gL_gGn (by decide)]; exact h5
  · rw [gL_gGn (by decide), gL_gGn (by decide), gL_gGn (by decide)]; exact h6
  · rw [gL_gGn (by decide), gL_gGn (by decide), gL_gGn (by decide), gL_gGn (by decide)]; exact h7
  · rw [gL_gGn (by decide), gL_gGn (by decide), gL_gGn (by decide), gL_gGn (by decide), gL_gGn (by decide)]; exact h8
  · rw [gL_gGn (by decide), gL_gGn (by decide), gL_gGn (by decide), gL_gGn (by decide), gL_gGn (by decide), gL_gGn (by decide)]; exact h9
  · rw [gL_gGn (by decide), gL_gGn (by decide), gL_gGn (by decide), gL_gGn (by decide), gL_gGn (by decide), gL_gGn (by decide), gL_gGn (by decide)]; exact h10
  · rw [gL_gGn (by decide), gL_gGn (by decide), gL_gGn (by decide), gL_gGn (by decide), gL_gGn (by decide), gL_gGn (by decide), gL_gGn (by decide), gL_gGn (by decide)]; exact h11
  · rw [gL_gGn (by decide), gL_gGn (by decide), gL_gGn (by decide), gL_gGn (by decide), gL_gGn (by decide), gL_gGn (by decide), gL_gGn (by decide), gL_gGn (by decide), gL_gGn (by decide)]; exact h12
theorem gA_g10 {M : MS} {n a : Nat} (h : ¬ (3 ≤ a ∧ a ≤ 12)) : gA (g10 M n) a = gA M a := by
  unfold g10
  rw [gA_gGn (by omega), gA_gGn (by omega), gA_gGn (by omega), gA_gGn (by omega), gA_gGn (by omega), gA_gGn (by omega), gA_gGn (by omega), gA_gGn (by omega), gA_gGn (by omega), gA_gGn (by omega)]
theorem cM_g10 {M : MS} {n : Nat} : cM (g10 M n) = ((cM M).1 + 10, (cM M).2 + 13 * n) := by
  unfold g10
  rw [cM_gG, cM_gG, cM_gG, cM_gG, cM_gG, cM_gG, cM_gG, cM_gG, cM_gG, cM_gG]
  refine Prod.ext ?_ ?_
  · show (cM M).1 + 1 + 1 + 1 + 1 + 1 + 1 + 1 + 1 + 1 + 1 = (cM M).1 + 10
    omega
  · show (cM M).2 + n + n + n + n + n + n + n + n + n + n * 4 = (cM M).2 + 13 * n
    omega
theorem st10 {M : MS} {n : Nat} (hG : GD M) (hn : n ≤ 1000000) (h3 : gL M 3 < n) (h4 : gL M 4 < n) (h5 : gL M 5 < n) (h6 : gL M 6 < n) (h7 : gL M 7 < n) (h8 : gL M 8 < n) (h9 : gL M 9 < n) (h10 : gL M 10 < n) (h11 : gL M 11 < n) (h12 : gL M 12 < n * 4) :
    ((stG M 3 (Int32.ofNat n)).bind fun M1 => (stG M1 4 (Int32.ofNat n)).bind fun M2 => (stG M2 5 (Int32.ofNat n)).bind fun M3 => (stG M3 6 (Int32.ofNat n)).bind fun M4 => (stG M4 7 (Int32.ofNat n)).bind fun M5 => (stG M5 8 (Int32.ofNat n)).bind fun M6 => (stG M6 9 (Int32.ofNat n)).bind fun M7 => (stG M7 10 (Int32.ofNat n)).bind fun M8 => (stG M8 11 (Int32.ofNat n)).bind fun M9 => (stG M9 12 (Int32.ofNat (n * 4))).bind fun M10 => some (M10, ())) = some (g10 M n, ()) := by
  unfold g10
  rw [stG_of h3 (by omega) (by exact hG), Option.bind_some]
  rw [stG_of (a := 4) (by rw [gL_gGn (by decide)]; exact h4) (by omega) (by exact hG), Option.bind_some]
  rw [stG_of (a := 5) (by rw [gL_gGn (by decide), gL_gGn (by decide)]; exact h5) (by omega) (by exact hG), Option.bind_some]
  rw [stG_of (a := 6) (by rw [gL_gGn (by decide), gL_gGn (by decide), gL_gGn (by decide)]; exact h6) (by omega) (by exact hG), Option.bind_some]
  rw [stG_of (a := 7) (by rw [gL_gGn (by decide), gL_gGn (by decide), gL_gGn (by decide), gL_gGn (by decide)]; exact h7) (by omega) (by exact hG), Option.bind_some]
  rw [stG_of (a := 8) (by rw [gL_gGn (by decide), gL_gGn (by decide), gL_gGn (by decide), gL_gGn (by decide), gL_gGn (by decide)]; exact h8) (by omega) (by exact hG), Option.bind_some]
  rw [stG_of (a := 9) (by rw [gL_gGn (by decide), gL_gGn (by decide), gL_gGn (by decide), gL_gGn (by decide), gL_gGn (by decide), gL_gGn (by decide)]; exact h9) (by omega) (by exact hG), Option.bind_some]
  rw [stG_of (a := 10) (by rw [gL_gGn (by decide), gL_gGn (by decide), gL_gGn (by decide), gL_gGn (by decide), gL_gGn (by decide), gL_gGn (by decide), gL_gGn (by decide)]; exact h10) (by omega) (by exact hG), Option.bind_some]
  rw [stG_of (a := 11) (by rw [gL_gGn (by decide), gL_gGn (by decide), gL_gGn (by decide), gL_gGn (by decide), gL_gGn (by decide), gL_gGn (by decide), gL_gGn (by decide), gL_gGn (by decide)]; exact h11) (by omega) (by exact hG), Option.bind_some]
  rw [stG_of (a := 12) (by rw [gL_gGn (by decide), gL_gGn (by decide), gL_gGn (by decide), gL_gGn (by decide), gL_gGn (by decide), gL_gGn (by decide), gL_gGn (by decide), gL_gGn (by decide), gL_gGn (by decide)]; exact h12) (by omega) (by exact hG), Option.bind_some]
theorem c_room33 {g : TG} {M : MS} (h : TI g M) (hG : GD M) (hU : tU g < 131072) : ∃ M1, m_Terms_makeRoom_33 M = some (M1, ()) ∧ TI g M1 ∧ tU g < gL M1 3 ∧ gL M1 13 = gL M 13 ∧ FC [3, 4, 5, 6, 7, 8, 9, 10, 11, 12, 13] [] M M1 ∧ gI M1 = gI M ∧ (∀ p, p < 4 * tU g → gA M1 12 p = gA M 12 p) := by
  have hlt := h.2.1.lt
  obtain ⟨⟨m1, m2⟩, ⟨m3, m4⟩, ⟨l4, l5, l6, l7, l8, l9, l10, l11, l12, l14⟩, ⟨k1, k2, k3⟩, -⟩ := h.2.1
  have hrm := rooms_le m4
  unfold m_Terms_makeRoom_33
  rw [m1]
  by_cases he : tU g = gL M 3
  · have hr2 : gL M 3 * 2 ∈ rooms := by
      unfold rooms at m4 ⊢
      simp only [List.mem_cons, List.not_mem_nil, or_false] at m4 ⊢
      omega
    have hgw : GW M (g10 M (gL M 3 * 2)) := g10_gw (by omega) (by omega) (by omega) (by omega) (by omega) (by omega) (by omega) (by omega) (by omega) (by omega)
    have hlen := fun a => gL_g10 (M := M) (n := gL M 3 * 2) a
    have e3 : gL (g10 M (gL M 3 * 2)) 3 = gL M 3 * 2 := hlen 3
    have e13 : gL (g10 M (gL M 3 * 2)) 13 = gL M 13 := hlen 13
    rw [if_pos (by rw [he]; exact Int32.le_refl _), i_x2, show Int32.ofNat (tU g * 2) * 4 = Int32.ofNat (tU g * 2 * 4) from i_mul_of _ 4, he, st10 hG (by omega) (by omega) (by omega) (by omega) (by omega) (by omega) (by omega) (by omega) (by omega) (by omega) (by omega)]
    refine ⟨g10 M (gL M 3 * 2), rfl, h.grow hgw ?_ ?_ ?_, ?_, e13, ⟨fun a ha => ⟨?_, rfl, ?_⟩, fun _ _ _ => rfl, rfl, ?_, ?_⟩, rfl, fun p hp => hgw.1 12 p (by omega)⟩
    · rw [e3]; exact hr2
    · rw [e3]
      refine ⟨hlen 4, hlen 5, hlen 6, hlen 7, hlen 8, hlen 9, hlen 10, hlen 11, ?_, ?_⟩
      · rw [hlen 12, if_pos rfl]; omega
      · rw [hlen 14, if_neg (by omega), if_neg (by omega)]; exact l14
    · rw [e13]; exact k3
    · rw [e3]; omega
    · simp only [List.mem_cons, List.not_mem_nil, or_false, not_or] at ha
      exact gA_g10 (by omega)
    · simp only [List.mem_cons, List.not_mem_nil, or_false, not_or] at ha
      rw [hlen a, if_neg (by omega), if_neg (by omega)]
    · unfold cLe
      rw [cM_g10]
      exact ⟨Nat.le_add_right _ _, Nat.le_add_right _ _⟩
    · have e16 : gL (g10 M (gL M 3 * 2)) 16 = gL M 16 := hlen 16
      have e18 : gL (g10 M (gL M 3 * 2)) 18 = gL M 18 := hlen 18
      have e20 : gL (g10 M (gL M 3 * 2)) 20 = gL M 20 := hlen 20
      have e23 : gL (g10 M (gL M 3 * 2)) 23 = gL M 23 := hlen 23
      have e79 : gL (g10 M (gL M 3 * 2)) 79 = gL M 79 := hlen 79
      unfold PG pot
      rw [cM_g10, e3, e13, e16, e18, e20, e23, e79]
      constructor
      · show (cM M).2 + 13 * (gL M 3 * 2) + _ ≤ _
        omega
      · show 64 * ((cM M).1 + 10) + _ ≤ _ + ((cM M).2 + 13 * (gL M 3 * 2))
        omega
  · rw [if_neg (by rw [i_le_of (by omega) (by omega)]; omega)]
    exact ⟨M, rfl, h, by omega, rfl, FC.rf, rfl, fun _ _ => rfl⟩
theorem c_room {g : TG} {M : MS} {n : Nat} (h : TI g M) (hG : GD M) (hU : tU g < 131072) (hn : tKU g + n ≤ 1000000) : ∃ M1, m_Terms_makeRoom (Int32.ofNat n) M = some (M1, ()) ∧ TI g M1 ∧ tU g < gL M1 3 ∧ tKU g + n ≤ gL M1 13 ∧ FC [3, 4, 5, 6, 7, 8, 9, 10, 11, 12, 13] [] M M1 ∧ gL M1 13 ≤ max (gL M 13) (2 * (tKU g + n)) ∧ gI M1 = gI M ∧ (∀ p, p < 4 * tU g → gA M1 12 p = gA M 12 p) := by
  have hlt := h.2.1.lt
  obtain ⟨⟨m1, m2⟩, ⟨m3, m4⟩, hls, ⟨k1, k2, k3⟩, -⟩ := h.2.1
  unfold m_Terms_makeRoom
  rw [m2, i_add_of]
  by_cases he : tKU g + n ≤ gL M 13
  · rw [if_pos (by rw [i_le_of (by omega) (by omega)]; exact he)]
    obtain ⟨M1, a1, a2, a3, a4, a5, a6, a7⟩ := c_room33 h hG hU
    exact ⟨M1, a1, a2, a3, by omega, a5, by omega, a6, a7⟩
  · rw [if_neg (by rw [i_le_of (by omega) (by omega)]; exact he), i_x2, stG_of (by omega) (by omega) (by exact hG), Option.bind_some]
    have hfc : FC [3, 4, 5, 6, 7, 8, 9, 10, 11, 12, 13] [] M (gG M 13 ((tKU g + n) * 2)) := FC.grow (by decide) (Or.inl rfl) (by omega) (by omega)
    have hgl : ∀ a, a ≠ 13 → gL (gG M 13 ((tKU g + n) * 2)) a = gL M a := fun a ha => by rw [gL_gG, if_neg ha]
    have hT : TI g (gG M 13 ((tKU g + n) * 2)) := by
      refine h.grow (GW.gG (by omega)) ?_ ?_ ?_
      · rw [hgl 3 (by omega)]; exact m4
      · rw [hgl 3 (by omega), hgl 4 (by omega), hgl 5 (by omega), hgl 6 (by omega), hgl 7 (by omega), hgl 8 (by omega), hgl 9 (by omega), hgl 10 (by omega), hgl 11 (by omega), hgl 12 (by omega), hgl 14 (by omega)]
        exact hls
      · rw [gL_gG, if_pos rfl]; omega
    obtain ⟨M1, a1, a2, a3, a4, a5, a6, a7⟩ := c_room33 hT (hG.fc hfc) hU
    rw [gL_gG, if_pos rfl] at a4
    exact ⟨M1, a1, a2, a3, by omega, hfc.tr a5, by omega, a6, fun p hp => (a7 p hp).trans (by rw [gA_gG, if_neg (by omega)])⟩
