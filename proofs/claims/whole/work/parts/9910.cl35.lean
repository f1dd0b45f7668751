/-! STEP 2, the class: has: where a word of each part ends -/
theorem ush_a : ∀ k : Fin 16, (((Int32.ofNat (2 * k.val)).toUInt32 &&& Int32.toUInt32 31).toNat % 32) = 2 * k.val := by decide
theorem ssh_a : ∀ k : Fin 16, ((Int32.ofNat (2 * k.val) &&& 31).toBitVec.smod 32).toNat = 2 * k.val := by decide
theorem bit3 : ∀ i : Fin 32, 2 ≤ i.val → (3 : Int32).toBitVec.getLsbD i.val = false := by decide
theorem ush3 (w : Int32) {k : Nat} (hk : k < 16) : xushr w (Int32.ofNat (2 * k)) &&& 3 = (w >>> (Int32.ofNat (2 * k) &&& 31)) &&& 3 := by
  apply Int32.toBitVec_inj.mp
  rw [Int32.toBitVec_and, Int32.toBitVec_and]
  apply BitVec.eq_of_getLsbD_eq
  intro i hi
  rw [BitVec.getLsbD_and, BitVec.getLsbD_and]
  by_cases h2 : 2 ≤ i
  · rw [bit3 ⟨i, hi⟩ h2, Bool.and_false, Bool.and_false]
  · congr 1
    have e1 : (w >>> (Int32.ofNat (2 * k) &&& 31)).toBitVec = w.toBitVec.sshiftRight (2 * k) := by
      have h1 : (w >>> (Int32.ofNat (2 * k) &&& 31)).toBitVec = w.toBitVec.sshiftRight ((Int32.ofNat (2 * k) &&& 31).toBitVec.smod 32).toNat := rfl
      rw [h1, ssh_a ⟨k, hk⟩]
    have e2 : (xushr w (Int32.ofNat (2 * k))).toBitVec = w.toBitVec >>> (2 * k) := by
      have h1 : (xushr w (Int32.ofNat (2 * k))).toBitVec = w.toBitVec >>> (((Int32.ofNat (2 * k)).toUInt32 &&& Int32.toUInt32 31).toNat % 32) := rfl
      rw [h1, ush_a ⟨k, hk⟩]
    rw [e1, e2, BitVec.getLsbD_ushiftRight, BitVec.getLsbD_sshiftRight, decide_eq_false (by omega), if_pos (by omega)]
    rfl
/-! a term's ends, told by its parts -/
theorem TB.one {g : TG} (h : TB g) {i : Nat} (hi : i < tU g) (h6 : tso g i = 6 ∨ tso g i = 7) : ∃ a, tkd g i = [a] ∧ ttx g i = tso g i :: ttx g a := by
  have hk : ∃ a, tkd g i = [a] := by
    by_cases h18 : 18 ≤ i
    · obtain ⟨h1, -, -⟩ := h.2.2.2.2.1 i h18 hi
      rcases h1 with ⟨a1, -⟩ | ⟨a1, -⟩ | ⟨a1, a, a2, -⟩ | ⟨a1, a, a2, -⟩
      · omega
      · omega
      · exact ⟨a, a2⟩
      · exact ⟨a, a2⟩
    · by_cases h17 : i = 17
      · rw [h17]; exact ⟨0, h.2.2.2.1.2.1⟩
      · by_cases h16 : i = 16
        · rw [h16, h.2.2.1.1] at h6; omega
        · have := (h.2.1 i (by omega)).1
          rw [this] at h6
          split at h6 <;> omega
  obtain ⟨a, ha⟩ := hk
  refine ⟨a, ha, ?_⟩
  rw [h.eq hi (by omega), ha]
  unfold txF
  rw [if_neg (by omega)]
  simp
theorem TB.sev {g : TG} (h : TB g) {i : Nat} (hi : i < tU g) (h4 : tso g i = 4 ∨ tso g i = 5) : 2 ≤ (tkd g i).length ∧ ttx g i = (tso g i + 8 * (srt ((tkd g i).map (ttx g))).length) :: (srt ((tkd g i).map (ttx g))).flatten := by
  have h18 : 18 ≤ i := by
    refine Classical.byContradiction (fun hn => ?_)
    by_cases h17 : i = 17
    · rw [h17, h.2.2.2.1.1] at h4; omega
    · by_cases h16 : i = 16
      · rw [h16, h.2.2.1.1] at h4; omega
      · have := (h.2.1 i (by omega)).1
        rw [this] at h4
        split at h4 <;> omega
  obtain ⟨h1, h2, h3⟩ := h.2.2.2.2.1 i h18 hi
  have hs : 2 ≤ (tkd g i).length ∧ SrN (tkd g i) := by
    rcases h1 with ⟨a1, -⟩ | ⟨a1, a2⟩ | ⟨a1, -⟩ | ⟨a1, -⟩
    · omega
    · exact a2
    · omega
    · omega
  refine ⟨hs.1, ?_⟩
  rw [srt_len_nodup (h.mapnd (fun k hk => Nat.lt_trans (h2 k hk) hi) hs.2), List.length_map, h3]
  unfold txF
  rw [if_pos h4, List.length_map]
theorem sp_sev {g : TG} (h : TB g) {w : Int32} {n i : Nat} (hi : i < tU g) (h4 : tso g i = 4 ∨ tso g i = 5) : sp w n (ttx g i) = spF w n (tso g i + 8 * (srt ((tkd g i).map (ttx g))).length) ((srt ((tkd g i).map (ttx g))).map (sp w n)) := by
  rw [(h.sev hi h4).2]
  refine sp_mk (ar_or h4 _) (fun p hp => ?_)
  obtain ⟨k, hk, rfl⟩ := List.mem_map.mp (mem_srt.mp hp)
  exact h.wf (Nat.lt_trans (h.kids hi k hk) hi)
theorem sp_4 {g : TG} (h : TB g) {w : Int32} {n i : Nat} (hi : i < tU g) (h4 : tso g i = 4) (s j : Nat) : sp w n (ttx g i) s j ↔ ∃ k ∈ tkd g i, sp w n (ttx g k) s j := by
  rw [sp_sev h hi (Or.inl h4), h4]
  unfold spF
  rw [if_neg (by omega), if_neg (by omega), if_neg (by omega), if_neg (by omega), if_pos (by omega)]
  constructor
  · rintro ⟨f, h1, h2⟩
    obtain ⟨p, h3, rfl⟩ := List.mem_map.mp h1
    obtain ⟨k, hk, rfl⟩ := List.mem_map.mp (mem_srt.mp h3)
    exact ⟨k, hk, h2⟩
  · rintro ⟨k, hk, h2⟩
    exact ⟨_, List.mem_map.mpr ⟨_, mem_srt.mpr (List.mem_map.mpr ⟨k, hk, rfl⟩), rfl⟩, h2⟩
theorem sp_5 {g : TG} (h : TB g) {w : Int32} {n i : Nat} (hi : i < tU g) (h4 : tso g i = 5) (s j : Nat) : sp w n (ttx g i) s j ↔ (s ≤ j ∧ j ≤ n) ∧ ∀ k ∈ tkd g i, sp w n (ttx g k) s j := by
  rw [sp_sev h hi (Or.inr h4), h4]
  unfold spF
  rw [if_neg (by omega), if_neg (by omega), if_neg (by omega), if_neg (by omega), if_neg (by omega), if_pos (by omega)]
  constructor
  · rintro ⟨h0, h1⟩
    exact ⟨h0, fun k hk => h1 _ (List.mem_map.mpr ⟨_, mem_srt.mpr (List.mem_map.mpr ⟨k, hk, rfl⟩), rfl⟩)⟩
  · rintro ⟨h0, h1⟩
    refine ⟨h0, fun f hf => ?_⟩
    obtain ⟨p, h3, rfl⟩ := List.mem_map.mp hf
    obtain ⟨k, hk, rfl⟩ := List.mem_map.mp (mem_srt.mp h3)
    exact h1 k hk
theorem sp_3 {g : TG} (h : TB g) {w : Int32} {n i a b : Nat} (hi : i < tU g) (h3 : tso g i = 3) (hk : tkd g i = [a, b]) (s j : Nat) : sp w n (ttx g i) s j ↔ ∃ m, s ≤ m ∧ m ≤ n ∧ sp w n (ttx g a) s m ∧ sp w n (ttx g b) m j := by
  obtain ⟨p, q, e1, e2, e3, -, e5, -⟩ := h.cat2 hi h3
  rw [hk] at e1
  simp only [List.cons.injEq, and_true] at e1
  rw [← e1.1, ← e1.2] at e5
  rw [← e1.1] at e2
  rw [← e1.2] at e3
  have e : ttx g i = 3 :: ([ttx g a, ttx g b] : List (List Nat)).flatten := by rw [e5]; simp
  rw [e, sp_mk (x := 3) (ps := [ttx g a, ttx g b]) rfl (fun p hp => by
    rcases List.mem_cons.mp hp with rfl | hp
    · exact h.wf (by omega)
    · rw [List.mem_singleton.mp hp]; exact h.wf (by omega))]
  exact Iff.rfl
theorem sp_1k {g : TG} (h : TB g) {w : Int32} {n i a : Nat} (hi : i < tU g) (h6 : tso g i = 6 ∨ tso g i = 7) (hk : tkd g i = [a]) : sp w n (ttx g i) = spF w n (tso g i) [sp w n (ttx g a)] := by
  obtain ⟨b, e1, e2⟩ := h.one hi h6
  rw [hk] at e1
  simp only [List.cons.injEq, and_true] at e1
  rw [← e1] at e2
  have hlt := h.kids hi a (by rw [hk]; exact List.mem_singleton.mpr rfl)
  have e : ttx g i = tso g i :: ([ttx g a] : List (List Nat)).flatten := by rw [e2]; simp
  rw [e, sp_mk (ps := [ttx g a]) (by rw [ar_1 (by omega)]; rfl) (fun p hp => by rw [List.mem_singleton.mp hp]; exact h.wf (by omega))]
  rfl
theorem sp_6 {g : TG} (h : TB g) {w : Int32} {n i a : Nat} (hi : i < tU g) (h6 : tso g i = 6) (hk : tkd g i = [a]) (s j : Nat) : sp w n (ttx g i) s j ↔ (s ≤ j ∧ j ≤ n) ∧ ¬ sp w n (ttx g a) s j := by
  rw [sp_1k h hi (Or.inl h6) hk, h6]
  exact Iff.rfl
theorem sp_7 {g : TG} (h : TB g) {w : Int32} {n i a : Nat} (hi : i < tU g) (h7 : tso g i = 7) (hk : tkd g i = [a]) (s j : Nat) : sp w n (ttx g i) s j ↔ rs (sp w n (ttx g a)) s j := by
  rw [sp_1k h hi (Or.inr h7) hk, h7]
  exact Iff.rfl
theorem TB.low {g : TG} (h : TB g) {i : Nat} (hi : i < tU g) (h3 : tso g i < 3) : (tso g i = 0 ∧ ttx g i = [0]) ∨ (tso g i = 1 ∧ ttx g i = [1]) ∨ (tso g i = 2 ∧ i < 16 ∧ ttx g i = [2 + 8 * i]) := by
  by_cases h18 : 18 ≤ i
  · have := (h.2.2.2.2.1 i h18 hi).1.lt
    omega
  · by_cases h17 : i = 17
    · rw [h17, h.2.2.2.1.1] at h3; omega
    · by_cases h16 : i = 16
      · rw [h16]
        exact Or.inr (Or.inl ⟨h.2.2.1.1, h.2.2.1.2.2⟩)
      · obtain ⟨a1, a2, a3⟩ := h.2.1 i (by omega)
        unfold ltT at a3
        by_cases h0 : i = 0
        · rw [if_pos h0] at a1 a3
          exact Or.inl ⟨a1, a3⟩
        · rw [if_neg h0] at a1
          rw [if_neg h0, if_neg h16] at a3
          exact Or.inr (Or.inr ⟨a1, by omega, a3⟩)
/-! the bits -/
def WS (M : MS) (w : Int32) (n : Nat) : Prop := gI M 75 4 = w ∧ gI M 75 5 = Int32.ofNat n ∧ gL M 77 = 1700
theorem c_endBits {g : TG} {M : MS} {k s p : Nat} (hI : TI g M) (hk : k < tU g) (hp : ttg g k = p) (hp2 : p < 100) (hs : s ≤ 16) (l77 : gL M 77 = 1700) : m_WordCheck_endBitsOf (Int32.ofNat k) (Int32.ofNat s) M = some (M, gA M 77 (17 * p + s)) := by
  have hlt := hI.2.1.lt
  obtain ⟨-, ⟨m3, m4⟩, ⟨l4, l5, l6, l7, l8, l9, l10, -⟩, -, -⟩ := hI.2.1
  obtain ⟨t1, t2⟩ := hI.2.2.2.2 k hk
  unfold m_WordCheck_endBitsOf m_Terms_tagOf
  rw [ld_of (by omega) (by omega), Option.bind_some, cal_same, t1, hp]
  show ((ldA M 77 (Int32.ofNat p * 17 + Int32.ofNat s)).bind _) = _
  rw [show (17 : Int32) = Int32.ofNat 17 from rfl, i_mul_of, i_add_of, Nat.mul_comm, ld_of (by omega) (by omega), Option.bind_some]
theorem c_gone {g : TG} {M : MS} {w v : Int32} {n k p : Nat} {P : Nat → Prop} {Q : Nat → Nat → Prop} (hI : TI g M) (hw : WS M w n) (hn : n ≤ 16) (hk : k < tU g) (hp : ttg g k = p) (hp2 : p < 100) (hv : Mk v P) (hQ : ∀ m, m ≤ n → P m → Mk (gA M 77 (17 * p + m)) (Q m)) :
    ∃ r, m_WordCheck_goneOn v (Int32.ofNat k) M = some (M, r) ∧ Mk r (fun j => ∃ m, m ≤ n ∧ P m ∧ Q m j) := by
  obtain ⟨r, h1, h2⟩ := lp0 (b := fun (k : Int32 × Int32 × Int32 × Int32 × MS → Option (MS × Int32)) (i : Int32 × Int32 × Int32 × Int32 × MS) => m_WordCheck_goneOn_6b k i.1 i.2.1 i.2.2.1 i.2.2.2.1 i.2.2.2.2) (fun i (r : Int32) => (v, Int32.ofNat k, r, Int32.ofNat i, M)) (fun i r => Mk r (fun j => ∃ m, m < i ∧ P m ∧ Q m j)) (fun r => some (M, r)) (n := n + 1) (by
    intro k' i r hi hr
    by_cases hPi : P i
    · refine ⟨r ||| gA M 77 (17 * p + i), (hr.or (hQ i (by omega) hPi)).ext (fun j => ?_), ?_⟩
      · constructor
        · rintro (⟨m, m1, m2, m3⟩ | h)
          · exact ⟨m, by omega, m2, m3⟩
          · exact ⟨i, by omega, hPi, h⟩
        · rintro ⟨m, m1, m2, m3⟩
          by_cases e : m = i
          · rw [e] at m3; exact Or.inr m3
          · exact Or.inl ⟨m, by omega, m2, m3⟩
      · show m_WordCheck_goneOn_6b k' v (Int32.ofNat k) r (Int32.ofNat i) M = _
        unfold m_WordCheck_goneOn_6b
        rw [hw.2.1, if_neg (by rw [i_lt_of (by omega) (by omega)]; omega), if_neg (fun q => q ((hv.bit (by omega)).mpr hPi)), c_endBits hI hk hp hp2 (by omega) hw.2.2, cal_same, i_inc]
    · refine ⟨r, hr.ext (fun j => ?_), ?_⟩
      · constructor
        · rintro ⟨m, m1, m2, m3⟩
          exact ⟨m, by omega, m2, m3⟩
        · rintro ⟨m, m1, m2, m3⟩
          by_cases e : m = i
          · rw [e] at m2; exact absurd m2 hPi
          · exact ⟨m, by omega, m2, m3⟩
      · show m_WordCheck_goneOn_6b k' v (Int32.ofNat k) r (Int32.ofNat i) M = _
        unfold m_WordCheck_goneOn_6b
        rw [hw.2.1, if_neg (by rw [i_lt_of (by omega) (by omega)]; omega), if_pos (fun q => hPi ((hv.bit (by omega)).mp q)), i_inc]) (by
    intro k' r _
    show m_WordCheck_goneOn_6b k' v (Int32.ofNat k) r (Int32.ofNat (n + 1)) M = _
    unfold m_WordCheck_goneOn_6b
    rw [hw.2.1, if_pos (by rw [i_lt_of (by omega) (by omega)]; omega)]) 0 (by omega) (Mk.no.ext (fun j => ⟨fun h => h.elim, fun ⟨m, m1, _⟩ => absurd m1 (Nat.not_lt_zero _)⟩))
  refine ⟨r, h2, h1.ext (fun j => ⟨fun ⟨m, m1, m2⟩ => ⟨m, by omega, m2⟩, fun ⟨m, m1, m2⟩ => ⟨m, by omega, m2⟩⟩)⟩
/-- a part's kids are ready -/
def KR (g : TG) (M : MS) (w : Int32) (n i : Nat) : Prop := ∀ k ∈ tkd g i, ∃ p, p < 100 ∧ ttg g k = p ∧ ∀ m, m ≤ n → Mk (gA M 77 (17 * p + m)) (sp w n (ttx g k) m)
theorem c_merged {g : TG} {M : MS} {w : Int32} {n i s : Nat} (hI : TI g M) (hw : WS M w n) (hn : n ≤ 16) (hi : i < tU g) (hs : s ≤ n) (h4 : tso g i = 4 ∨ tso g i = 5) (hK : KR g M w n i) (hlen : (tkd g i).length ≤ 1000) :
    ∃ r, m_WordCheck_merged (Int32.ofNat i) (Int32.ofNat s) M = some (M, r) ∧ Mk r (sp w n (ttx g i) s) := by
  have hB := hI.1
  have h2 := (hB.sev hi h4).1
  have hkid : ∀ j, j < (tkd g i).length → ∃ v, (cal cM M (m_Terms_kid (Int32.ofNat i) (Int32.ofNat j) M) fun r1 => cal cM r1.1 (m_WordCheck_endBitsOf r1.2 (Int32.ofNat s) r1.1) fun r2 => some r2) = some (M, v) ∧ Mk v (sp w n (ttx g ((tkd g i).getD j 0)) s) ∧ m_Terms_kid (Int32.ofNat i) (Int32.ofNat j) M = some (M, Int32.ofNat ((tkd g i).getD j 0)) ∧ m_WordCheck_endBitsOf (Int32.ofNat ((tkd g i).getD j 0)) (Int32.ofNat s) M = some (M, v) := fun j hj => by
    have hm := gD_mem hj
    have hkU := Nat.lt_trans (hB.kids hi _ hm) hi
    obtain ⟨p, p1, p2, p3⟩ := hK _ hm
    have e1 := c_kid hI hi hj
    have e2 := c_endBits (s := s) hI hkU p2 p1 (by omega) hw.2.2
    refine ⟨_, ?_, p3 s hs, e1, e2⟩
    rw [e1, cal_same, e2, cal_same]
  obtain ⟨v0, -, v1, v2, v3⟩ := hkid 0 (by omega)
  obtain ⟨r, h1, h3⟩ := lp (b := fun (k : Int32 × Int32 × Int32 × Int32 × MS → Option (MS × Int32)) (i : Int32 × Int32 × Int32 × Int32 × MS) => m_WordCheck_merged_17b k i.1 i.2.1 i.2.2.1 i.2.2.2.1 i.2.2.2.2) (fun j (r : Int32) => (Int32.ofNat i, Int32.ofNat s, r, Int32.ofNat j, M)) (fun j r => if tso g i = 4 then Mk r (fun x => ∃ c, c < j ∧ sp w n (ttx g ((tkd g i).getD c 0)) s x) else Mk r (fun x => ∀ c, c < j → sp w n (ttx g ((tkd g i).getD c 0)) s x)) (fun r => some (M, r)) (n := (tkd g i).length) (by
    intro k' j r hj hr
    obtain ⟨v, -, u1, u2, u3⟩ := hkid j hj
    by_cases e4 : tso g i = 4
    · rw [if_pos e4] at hr
      refine ⟨r ||| v, ?_, ?_⟩
      · rw [if_pos e4]
        refine (hr.or u1).ext (fun x => ?_)
        constructor
        · rintro (⟨c, c1, c2⟩ | h)
          · exact ⟨c, by omega, c2⟩
          · exact ⟨j, by omega, h⟩
        · rintro ⟨c, c1, c2⟩
          by_cases e : c = j
          · rw [e] at c2; exact Or.inr c2
          · exact Or.inl ⟨c, by omega, c2⟩
      · show m_WordCheck_merged_17b k' (Int32.ofNat i) (Int32.ofNat s) r (Int32.ofNat j) M = _
        unfold m_WordCheck_merged_17b
        rw [hI.cnt hi, cal_same, if_neg (by rw [i_le_of (by omega) (by omega)]; omega), u2, cal_same]
        show cal cM M (m_WordCheck_endBitsOf (Int32.ofNat ((tkd g i).getD j 0)) (Int32.ofNat s) M) _ = _
        rw [u3, cal_same]
        show cal cM M (m_Terms_sortOf (Int32.ofNat i) M) _ = _
        rw [hI.srt hi, cal_same, e4, if_neg (by show ¬ ¬ Int32.ofNat 4 = 4; decide), i_inc]
    · have e5 : tso g i = 5 := by omega
      rw [if_neg e4] at hr
      refine ⟨r &&& v, ?_, ?_⟩
      · rw [if_neg e4]
        refine (hr.and u1).ext (fun x => ?_)
        constructor
        · rintro ⟨q1, q2⟩ c hc
          by_cases e : c = j
          · rw [e]; exact q2
          · exact q1 c (by omega)
        · intro q
          exact ⟨fun c hc => q c (by omega), q j (by omega)⟩
      · show m_WordCheck_merged_17b k' (Int32.ofNat i) (Int32.ofNat s) r (Int32.ofNat j) M = _
        unfold m_WordCheck_merged_17b
        rw [hI.cnt hi, cal_same, if_neg (by rw [i_le_of (by omega) (by omega)]; omega), u2, cal_same]
        show cal cM M (m_WordCheck_endBitsOf (Int32.ofNat ((tkd g i).getD j 0)) (Int32.ofNat s) M) _ = _
        rw [u3, cal_same]
        show cal cM M (m_Terms_sortOf (Int32.ofNat i) M) _ = _
        rw [hI.srt hi, cal_same, e5, if_pos (by show ¬ Int32.ofNat 5 = 4; decide), i_inc]) (by
    intro k' r _
    show m_WordCheck_merged_17b k' (Int32.ofNat i) (Int32.ofNat s) r (Int32.ofNat (tkd g i).length) M = _
    unfold m_WordCheck_merged_17b
    rw [hI.cnt hi, cal_same, if_pos (Int32.le_refl _)]) ((tkd g i).length - 1) 1 v0 FU (by omega) (by unfold FU; omega) (by
    by_cases e4 : tso g i = 4
    · rw [if_pos e4]
      refine v1.ext (fun x => ⟨fun h => ⟨0, by omega, h⟩, fun h => ?_⟩)
      obtain ⟨c, c1, c2⟩ := h
      have c0 : c = 0 := by omega
      rw [c0] at c2
      exact c2
    · rw [if_neg e4]
      refine v1.ext (fun x => ⟨fun h c hc => ?_, fun h => h 0 (by omega)⟩)
      have c0 : c = 0 := by omega
      rw [c0]
      exact h)
  refine ⟨r, ?_, ?_⟩
  · unfold m_WordCheck_merged
    have v2' : m_Terms_kid (Int32.ofNat i) (0 : Int32) M = some (M, Int32.ofNat ((tkd g i).getD 0 0)) := v2
    rw [v2', cal_same]
    show cal cM M (m_WordCheck_endBitsOf (Int32.ofNat ((tkd g i).getD 0 0)) (Int32.ofNat s) M) _ = _
    rw [v3, cal_same]
    exact h3
  · by_cases e4 : tso g i = 4
    · rw [if_pos e4] at h1
      refine h1.ext (fun x => ?_)
      rw [sp_4 hB hi e4]
      constructor
      · rintro ⟨c, c1, c2⟩
        exact ⟨_, gD_mem c1, c2⟩
      · rintro ⟨k, k1, k2⟩
        obtain ⟨c, c1, c2⟩ := mem_gD k1
        exact ⟨c, c1, by rw [c2]; exact k2⟩
    · rw [if_neg e4] at h1
      refine h1.ext (fun x => ?_)
      rw [sp_5 hB hi (by omega)]
      constructor
      · intro q
        refine ⟨sp_rng _ (hB.wf (Nat.lt_trans (hB.kids hi _ (gD_mem (j := 0) (by omega))) hi)) s x hs (q 0 (by omega)), fun k hk => ?_⟩
        obtain ⟨c, c1, c2⟩ := mem_gD hk
        rw [← c2]
        exact q c c1
      · rintro ⟨-, q⟩ c hc
        exact q _ (gD_mem hc)
theorem sh_cl : ∀ s : Fin 16, ((1 : Int32) <<< (Int32.ofNat s.val &&& 31)) <<< ((1 : Int32) &&& 31) = Int32.ofNat (2 ^ (s.val + 1)) := by decide
theorem sh_not : ∀ (n s : Fin 17), s.val ≤ n.val → ((1 : Int32) <<< ((Int32.ofNat n.val + 1) &&& 31)) - ((1 : Int32) <<< (Int32.ofNat s.val &&& 31)) = Int32.ofNat (allM n.val s.val) := by decide +kernel
theorem c_endsFrom {g : TG} {M : MS} {w : Int32} {n i s p : Nat} (hI : TI g M) (hw : WS M w n) (hn : n ≤ 16) (hi : i < tU g) (hs : s ≤ n) (h76 : gA M 76 p = Int32.ofNat i) (l76 : gL M 76 = 100) (hp : p < 100) (htg : ttg g i = p) (hlen : (tkd g i).length ≤ 1000) (hK : KR g M w n i) (hS : ∀ m, s < m → m ≤ n → Mk (gA M 77 (17 * p + m)) (sp w n (ttx g i) m)) :
    ∃ r, m_WordCheck_endsFrom (Int32.ofNat p) (Int32.ofNat s) M = some (M, r) ∧ Mk r (sp w n (ttx g i) s) := by
  have hB := hI.1
  have hlt := hI.2.1.lt
  have hso8 : tso g i < 8 := by rw [← hB.so hi]; exact Nat.mod_lt _ (by omega)
  have ei : ∀ a b : Nat, a < 8 → b < 8 → (Int32.ofNat a = Int32.ofNat b ↔ a = b) := fun a b ha hb => i_eq_of (by omega) (by omega)
  unfold m_WordCheck_endsFrom
  rw [ld_of (by omega) (by omega), h76, Option.bind_some, hI.srt hi, cal_same]
  show ∃ r, (if Int32.ofNat (tso g i) = (1 : Int32) then _ else _) = some (M, r) ∧ _
  by_cases h3 : tso g i < 3
  · rcases hB.low hi h3 with ⟨a1, a2⟩ | ⟨a1, a2⟩ | ⟨a1, a2, a3⟩
    · refine ⟨0, by rw [a1]; rfl, ?_⟩
      rw [a2, show ([0] : List Nat) = 0 :: ([] : List (List Nat)).flatten from rfl, sp_mk (x := 0) (ps := []) rfl (fun p hp => by cases hp)]
      exact Mk.no
    · refine ⟨_, by rw [a1, if_pos (by decide)], ?_⟩
      rw [a2, show ([1] : List Nat) = 1 :: ([] : List (List Nat)).flatten from rfl, sp_mk (x := 1) (ps := []) rfl (fun p hp => by cases hp)]
      exact Mk.one (by omega)
    · have esp : ∀ j, sp w n (ttx g i) s j ↔ (s < n ∧ clT (2 + 8 * i) w n s ∧ j = s + 1) := fun j => by
        rw [a3, show ([2 + 8 * i] : List Nat) = (2 + 8 * i) :: ([] : List (List Nat)).flatten from rfl, sp_mk (x := 2 + 8 * i) (ps := []) (ar_cl i) (fun p hp => by cases hp)]
        unfold spF
        rw [if_neg (by omega), if_neg (by omega), if_pos (by omega)]
      have e8 : (2 + 8 * i) / 8 = i := by omega
      rw [a1, if_neg (by decide), if_pos (by show Int32.ofNat 2 = 2; decide)]
      show ∃ r, (if gI M 75 5 ≤ Int32.ofNat s then _ else _) = some (M, r) ∧ _
      rw [hw.2.1]
      by_cases hsn : s < n
      · rw [if_neg (by rw [i_le_of (by omega) (by omega)]; omega)]
        have elet : m_WordCheck_letterAt (Int32.ofNat s) M = some (M, ltr w n s) := by
          unfold m_WordCheck_letterAt ltr
          have ea : (2 : Int32) * ((Int32.ofNat n - 1) - Int32.ofNat s) = Int32.ofNat (2 * (n - 1 - s)) := by
            rw [i_pred (by omega) (by omega), i_sub_of (by omega) (by omega), show (2 : Int32) = Int32.ofNat 2 from rfl, i_mul_of]
          rw [hw.1, hw.2.1, ea, ush3 w (by omega)]
        show ∃ r, (cal cM M (m_WordCheck_letterAt (Int32.ofNat s) M) _) = some (M, r) ∧ _
        rw [elet, cal_same]
        by_cases hcl : clT (2 + 8 * i) w n s
        · have hcl' := hcl
          unfold clT at hcl'
          rw [e8] at hcl'
          rw [if_neg (fun q => q hcl'), sh_cl ⟨s, by omega⟩]
          exact ⟨_, rfl, (Mk.pow (by omega)).ext (fun j => by rw [esp]; exact ⟨fun h => ⟨hsn, hcl, h⟩, fun h => h.2.2⟩)⟩
        · have hcl' := hcl
          unfold clT at hcl'
          rw [e8] at hcl'
          rw [if_pos hcl']
          exact ⟨_, rfl, Mk.no.ext (fun j => by rw [esp]; exact ⟨fun h => h.elim, fun h => hcl h.2.1⟩)⟩
      · rw [if_pos (by rw [i_le_of (by omega) (by omega)]; omega)]
        exact ⟨_, rfl, Mk.no.ext (fun j => by rw [esp]; exact ⟨fun h => h.elim, fun h => hsn h.1⟩)⟩
  · rw [if_neg (by show ¬ Int32.ofNat (tso g i) = 1; rw [show (1 : Int32) = Int32.ofNat 1 from rfl, ei _ _ hso8 (by omega)]; omega), if_neg (by show ¬ Int32.ofNat (tso g i) = 2; rw [show (2 : Int32) = Int32.ofNat 2 from rfl, ei _ _ hso8 (by omega)]; omega)]
    have kidL : ∀ {j k : Nat}, (tkd g i).getD j 0 = k → j < (tkd g i).length → m_Terms_kid (Int32.ofNat i) (Int32.ofNat j) M = some (M, Int32.ofNat k) := fun e hj => by rw [← e]; exact c_kid hI hi hj
    by_cases e3 : tso g i = 3
    · obtain ⟨a, b, k1, k2, k3, -⟩ := hB.cat2 hi e3
      obtain ⟨pa, pa1, pa2, pa3⟩ := hK a (by rw [k1]; simp)
      obtain ⟨pb, pb1, pb2, pb3⟩ := hK b (by rw [k1]; simp)
      have q0 : m_Terms_kid (Int32.ofNat i) (0 : Int32) M = some (M, Int32.ofNat a) := kidL (j := 0) (by rw [k1]; rfl) (by rw [k1]; simp)
      have q1 : m_Terms_kid (Int32.ofNat i) (1 : Int32) M = some (M, Int32.ofNat b) := kidL (j := 1) (by rw [k1]; rfl) (by rw [k1]; simp)
      obtain ⟨r, r1, r2⟩ := c_gone (k := b) hI hw hn (by omega) pb2 pb1 (pa3 s hs) (fun m hm _ => pb3 m hm)
      rw [if_pos (by show Int32.ofNat (tso g i) = 3; rw [e3]; decide), q0, cal_same]
      show ∃ r, (cal cM M (m_WordCheck_endBitsOf (Int32.ofNat a) (Int32.ofNat s) M) _) = some (M, r) ∧ _
      rw [c_endBits hI (by omega) pa2 pa1 (by omega) hw.2.2, cal_same]
      show ∃ r, (cal cM M (m_Terms_kid (Int32.ofNat i) (1 : Int32) M) _) = some (M, r) ∧ _
      rw [q1, cal_same]
      show ∃ r, (cal cM M (m_WordCheck_goneOn (gA M 77 (17 * pa + s)) (Int32.ofNat b) M) _) = some (M, r) ∧ _
      rw [r1, cal_same]
      refine ⟨r, rfl, r2.ext (fun j => ?_)⟩
      rw [sp_3 hB hi e3 k1]
      constructor
      · rintro ⟨m, m1, m2, m3⟩
        exact ⟨m, (sp_rng _ (hB.wf (by omega)) s m hs m2).1, m1, m2, m3⟩
      · rintro ⟨m, m1, m2, m3, m4⟩
        exact ⟨m, m2, m3, m4⟩
    · rw [if_neg (by show ¬ Int32.ofNat (tso g i) = 3; rw [show (3 : Int32) = Int32.ofNat 3 from rfl, ei _ _ hso8 (by omega)]; exact e3)]
      by_cases e4 : tso g i = 4
      · obtain ⟨r, r1, r2⟩ := c_merged hI hw hn hi hs (Or.inl e4) hK hlen
        rw [if_pos (by show Int32.ofNat (tso g i) = 4; rw [e4]; decide), r1, cal_same]
        exact ⟨r, rfl, r2⟩
      · rw [if_neg (by show ¬ Int32.ofNat (tso g i) = 4; rw [show (4 : Int32) = Int32.ofNat 4 from rfl, ei _ _ hso8 (by omega)]; exact e4)]
        by_cases e5 : tso g i = 5
        · obtain ⟨r, r1, r2⟩ := c_merged hI hw hn hi hs (Or.inr e5) hK hlen
          rw [if_pos (by show Int32.ofNat (tso g i) = 5; rw [e5]; decide), r1, cal_same]
          exact ⟨r, rfl, r2⟩
        · rw [if_neg (by show ¬ Int32.ofNat (tso g i) = 5; rw [show (5 : Int32) = Int32.ofNat 5 from rfl, ei _ _ hso8 (by omega)]; exact e5)]
          by_cases e6 : tso g i = 6
          · obtain ⟨a, k1, -⟩ := hB.one hi (Or.inl e6)
            obtain ⟨pa, pa1, pa2, pa3⟩ := hK a (by rw [k1]; simp)
            have hai := hB.kids hi a (by rw [k1]; simp)
            have q0 : m_Terms_kid (Int32.ofNat i) (0 : Int32) M = some (M, Int32.ofNat a) := kidL (j := 0) (by rw [k1]; rfl) (by rw [k1]; simp)
            rw [if_pos (by show Int32.ofNat (tso g i) = 6; rw [e6]; decide), q0, cal_same]
            show ∃ r, (cal cM M (m_WordCheck_endBitsOf (Int32.ofNat a) (Int32.ofNat s) M) _) = some (M, r) ∧ _
            rw [c_endBits hI (by omega) pa2 pa1 (by omega) hw.2.2, cal_same]
            refine ⟨_, rfl, ?_⟩
            show Mk ((((1:Int32) <<< (((gI M 75 5) + (1:Int32)) &&& 31)) - ((1:Int32) <<< (Int32.ofNat s &&& 31))) &&& (gA M 77 (17 * pa + s) ^^^ (-1:Int32))) _
            rw [hw.2.1, sh_not ⟨n, by omega⟩ ⟨s, by omega⟩ hs]
            refine ((Mk.all0 (by omega) hs).andnot (pa3 s hs)).ext (fun j => ?_)
            rw [sp_6 hB hi e6 k1]
          · have e7 : tso g i = 7 := by omega
            obtain ⟨a, k1, -⟩ := hB.one hi (Or.inr e7)
            obtain ⟨pa, pa1, pa2, pa3⟩ := hK a (by rw [k1]; simp)
            have hai := hB.kids hi a (by rw [k1]; simp)
            have q0 : m_Terms_kid (Int32.ofNat i) (0 : Int32) M = some (M, Int32.ofNat a) := kidL (j := 0) (by rw [k1]; rfl) (by rw [k1]; simp)
            have hrng := sp_rng (w := w) (n := n) (ttx g a) (hB.wf (by omega))
            obtain ⟨r, r1, r2⟩ := c_gone (k := i) hI hw hn hi htg hp ((pa3 s hs).andnot (Mk.one (m := s) (by omega))) (fun m hm hP => hS m (by have := (hrng s m hs hP.1).1; have := hP.2; omega) hm)
            rw [if_neg (by show ¬ Int32.ofNat (tso g i) = 6; rw [show (6 : Int32) = Int32.ofNat 6 from rfl, ei _ _ hso8 (by omega)]; exact e6), if_pos (by show Int32.ofNat (tso g i) = 7; rw [e7]; decide), q0, cal_same]
            show ∃ r, (cal cM M (m_WordCheck_endBitsOf (Int32.ofNat a) (Int32.ofNat s) M) _) = some (M, r) ∧ _
            rw [c_endBits hI (by omega) pa2 pa1 (by omega) hw.2.2, cal_same]
            show ∃ r, (cal cM M (m_WordCheck_goneOn (gA M 77 (17 * pa + s) &&& (((1:Int32) <<< (Int32.ofNat s &&& 31)) ^^^ (-1:Int32))) (Int32.ofNat i) M) _) = some (M, r) ∧ _
            rw [r1, cal_same]
            refine ⟨_, rfl, ((Mk.one (m := s) (by omega)).or r2).ext (fun j => ?_)⟩
            rw [sp_7 hB hi e7 k1, rs_fwd]
            constructor
            · rintro (h | ⟨m, m1, ⟨m2, m3⟩, m4⟩)
              · exact Or.inl h.symm
              · refine Or.inr ⟨m, ?_, m2, ?_⟩
                · have := (hrng s m hs m2).1
                  omega
                · rw [sp_7 hB hi e7 k1] at m4
                  exact m4
            · rintro (h | ⟨m, m1, m2, m3⟩)
              · exact Or.inl h.symm
              · refine Or.inr ⟨m, (hrng s m hs m2).2, ⟨m2, by omega⟩, ?_⟩
                rw [sp_7 hB hi e7 k1]
                exact m3
