/-! STEP 2, the class: has, whole -/
/-- the parts before p are done -/
def EVp (g : TG) (M : MS) (w : Int32) (n : Nat) (ol : List Nat) (p : Nat) : Prop := ∀ p', p' < p → ∀ m, m ≤ n → Mk (gA M 77 (17 * p' + m)) (sp w n (ttx g (ol.getD p' 0)) m)
theorem TI.f77 {g : TG} {M M1 : MS} (h : TI g M) (hf : Fr [77] [] M M1) : TI g M1 := h.fc (FC.of hf) (fun a h1 h2 => Or.inl (fun q => by have := List.mem_singleton.mp q; omega)) ⟨by rw [hf.ln], by rw [hf.ln]⟩ (by simp) (by simp)
theorem WS.f77 {M M1 : MS} {w : Int32} {n : Nat} (h : WS M w n) (hf : Fr [77] [] M M1) : WS M1 w n := ⟨by rw [hf.gi (by simp)]; exact h.1, by rw [hf.gi (by simp)]; exact h.2.1, by rw [hf.ln]; exact h.2.2⟩
theorem c_acc35 {g : TG} {M : MS} {w l2 : Int32} {n p : Nat} {ol : List Nat} {k20 : Int32 × Int32 × MS → Option (MS × Int32)} (hI : TI g M) (hw : WS M w n) (hn : n ≤ 16) (hA : AR g M ol) (hp : p < ol.length) (h100 : ∀ x ∈ ol, (tkd g x).length ≤ 1000) (hE : EVp g M w n ol p) :
    ∃ M1, m_WordCheck_accepts_35 k20 (l2, Int32.ofNat p, Int32.ofNat n, M) = k20 (l2, Int32.ofNat (p + 1), M1) ∧ Fr [77] [] M M1 ∧ EVp g M1 w n ol (p + 1) := by
  obtain ⟨⟨a1, a2, a3⟩, a4, a5, a6⟩ := id hA
  obtain ⟨b1, b2, b3⟩ := a5 p hp
  obtain ⟨M1, ⟨h1, h2, h3⟩, h4⟩ := lp0 (b := fun (k : Int32 × Int32 × Int32 × MS → Option (MS × Int32)) (i : Int32 × Int32 × Int32 × MS) => m_WordCheck_accepts_35b k20 k i.1 i.2.1 i.2.2.1 i.2.2.2) (fun i (M' : MS) => (l2, Int32.ofNat p, Int32.ofNat (n + 1 - i) + -1, M')) (fun i M' => Fr [77] [] M M' ∧ EVp g M' w n ol p ∧ ∀ m, n + 1 - i ≤ m → m ≤ n → Mk (gA M' 77 (17 * p + m)) (sp w n (ttx g (ol.getD p 0)) m)) (fun M' => k20 (l2, Int32.ofNat (p + 1), M')) (n := n + 1) (by
    intro k i M' hi ⟨h1, h2, h3⟩
    have hI' := hI.f77 h1
    have hw' := hw.f77 h1
    have hK : KR g M' w n (ol.getD p 0) := fun k hk => by
      obtain ⟨q, q1, q2⟩ := a6 p hp k hk
      refine ⟨q, by omega, ?_, fun m hm => ?_⟩
      · rw [← q2]; exact (a5 q (by omega)).2.1
      · rw [← q2]; exact h2 q q1 m hm
    obtain ⟨r, r1, r2⟩ := c_endsFrom (s := n - i) (p := p) hI' hw' hn b3 (by omega) (by rw [h1.ga (by decide)]; exact b1) (by rw [h1.ln]; exact a3) (by omega) b2 (h100 _ (gD_mem hp)) hK (fun m m1 m2 => h3 m (by omega) m2)
    refine ⟨sA M' 77 (17 * p + (n - i)) r, ⟨h1.tr (Fr.stA (by decide)), fun p' hp' m hm => ?_, fun m m1 m2 => ?_⟩, ?_⟩
    · rw [gA_sA, if_neg (by omega)]
      exact h2 p' hp' m hm
    · rw [gA_sA]
      by_cases e : m = n - i
      · rw [if_pos ⟨rfl, by rw [e]⟩, e]
        exact r2
      · rw [if_neg (by omega)]
        exact h3 m (by omega) m2
    · have e1 : Int32.ofNat (n + 1 - i) + -1 = Int32.ofNat (n - i) := by
        rw [i_dec (by omega) (by omega)]
        congr 1
        omega
      rw [e1]
      show m_WordCheck_accepts_35b k20 k l2 (Int32.ofNat p) (Int32.ofNat (n - i)) M' = _
      unfold m_WordCheck_accepts_35b
      rw [if_neg (by rw [i_lt, i_of (by omega), i_0]; omega), r1, cal_same]
      show ((stA M' 77 (Int32.ofNat p * 17 + Int32.ofNat (n - i)) r).bind _) = _
      rw [show (17 : Int32) = Int32.ofNat 17 from rfl, i_mul_of, i_add_of, Nat.mul_comm, st_of (by rw [hw'.2.2]; omega) (by omega), Option.bind_some, show n + 1 - (i + 1) = n - i by omega]) (by
    intro k M' _
    rw [show n + 1 - (n + 1) = 0 by omega]
    show m_WordCheck_accepts_35b k20 k l2 (Int32.ofNat p) (Int32.ofNat 0 + -1) M' = _
    unfold m_WordCheck_accepts_35b
    rw [if_pos (by decide), i_inc]) M (by omega) ⟨Fr.rf, hE, fun m m1 m2 => by omega⟩
  refine ⟨M1, ?_, h1, fun p' hp' m hm => ?_⟩
  · have e1 : Int32.ofNat (n + 1 - 0) + -1 = Int32.ofNat n := by
      rw [i_dec (by omega) (by omega)]
      congr 1
    rw [e1] at h4
    exact h4
  · by_cases e : p' = p
    · rw [e]
      exact h3 m (by omega) hm
    · exact h2 p' (by omega) m hm
theorem c_accepts {g : TG} {M : MS} {w : Int32} {n x : Nat} {l0 : List Nat} (hI : TI g M) (hG : GD M) (hW : RW M 78 79 l0) (h76 : gL M 76 = 100) (h77 : gL M 77 = 1700) (h79 : gL M 79 ≤ 30000) (hn : n ≤ 16) (hx : x < tU g) (hl : (ttx g x).length ≤ 100) :
    ∃ M1 f b, m_WordCheck_accepts (Int32.ofNat x) w (Int32.ofNat n) M = some (M1, b01 b) ∧ (b = true ↔ sp w n (ttx g x) 0 n) ∧ TI (gtt g f) M1 ∧ RW M1 78 79 [] ∧ gL M1 79 ≤ 30000 ∧ gL M1 76 = 100 ∧ gL M1 77 = 1700 ∧ FC [10, 76, 77, 79] [(75, 3), (75, 4), (75, 5), (78, 1)] M M1 := by
  have hB := hI.1
  have hf0 : Fr [] [(75, 4), (75, 5)] M (sI (sI M 75 4 w) 75 5 (Int32.ofNat n)) := (Fr.stI (by decide)).tr (Fr.stI (by decide))
  have w4 : gI (sI (sI M 75 4 w) 75 5 (Int32.ofNat n)) 75 4 = w := by rw [gI_sI, if_neg (by omega), gI_sI, if_pos ⟨rfl, rfl⟩]
  have w5 : gI (sI (sI M 75 4 w) 75 5 (Int32.ofNat n)) 75 5 = Int32.ofNat n := by rw [gI_sI, if_pos ⟨rfl, rfl⟩]
  unfold m_WordCheck_accepts
  rw [Option.bind_some, Option.bind_some]
  generalize sI (sI M 75 4 w) 75 5 (Int32.ofNat n) = M0 at hf0 w4 w5
  have hfc0 := FC.of hf0
  have hI0 : TI g M0 := hI.fc hfc0 (fun a h1 h2 => Or.inl (by simp)) ⟨by rw [hf0.ln], by rw [hf0.ln]⟩ (by decide) (by decide)
  obtain ⟨M1, f, ol, c1, c2, c3, c4, c5, c6, c7⟩ := c_arrange hI0 (hG.fc hfc0) (hW.fc hfc0 (by simp) (by decide)) (by rw [hf0.ln]; exact h76) (by rw [hf0.ln]; exact h79) hx hl
  rw [cal_some c1 c7.le.1 c7.le.2]
  have hw : WS M1 w n := ⟨by rw [c7.gi (by decide)]; exact w4, by rw [c7.gi (by decide)]; exact w5, by rw [c7.gl (by decide), hf0.ln]; exact h77⟩
  obtain ⟨⟨a1, a2, a3⟩, a4, a5, a6⟩ := id c3
  have h1000 : ∀ y ∈ ol, (tkd (gtt g f) y).length ≤ 1000 := fun y hy => by
    obtain ⟨j, j1, j2⟩ := mem_gD hy
    have hk : ∀ k ∈ tkd (gtt g f) y, k ∈ ol := fun k hk => by
      rw [← j2] at hk
      obtain ⟨i, i1, i2⟩ := a6 j j1 k hk
      rw [← i2]
      exact gD_mem (by omega)
    have hyU : y < tU g := by rw [← j2]; exact (a5 j j1).2.2
    by_cases h4 : tso g y = 4 ∨ tso g y = 5
    · have hnd : (tkd g y).Nodup := by
        have h18 : 18 ≤ y := by
          refine Classical.byContradiction (fun hnn => ?_)
          by_cases h17 : y = 17
          · rw [h17, hB.2.2.2.1.1] at h4; omega
          · by_cases h16 : y = 16
            · rw [h16, hB.2.2.1.1] at h4; omega
            · have := (hB.2.1 y (by omega)).1
              rw [this] at h4
              split at h4 <;> omega
        obtain ⟨q1, q2, -⟩ := hB.2.2.2.2.1 y h18 hyU
        have hs : SrN (tkd g y) := by
          rcases q1 with ⟨z1, -⟩ | ⟨z1, z2⟩ | ⟨z1, -⟩ | ⟨z1, -⟩
          · omega
          · exact z2.2
          · omega
          · omega
        have := hB.mapnd (fun k hk => Nat.lt_trans (q2 k hk) hyU) hs
        exact (List.pairwise_map.mp this).imp (fun h e => h (by rw [e]))
      have := nodup_leG (tkd g y) ol hnd hk
      show (tkd g y).length ≤ 1000
      omega
    · have hkn := (hB.kn hyU).1
      have : ar (hd (ttx g y)) ≤ 2 := by
        unfold ar
        have := hB.so hyU
        split
        · omega
        · split
          · omega
          · split
            · omega
            · omega
      show (tkd g y).length ≤ 1000
      omega
  obtain ⟨M2, ⟨g1, g2⟩, g3⟩ := lp0 (b := fun (k : Int32 × Int32 × MS → Option (MS × Int32)) (i : Int32 × Int32 × MS) => m_WordCheck_accepts_20b k i.1 i.2.1 i.2.2) (fun p (M' : MS) => (Int32.ofNat x, Int32.ofNat p, M')) (fun p M' => Fr [77] [] M1 M' ∧ EVp (gtt g f) M' w n ol p) (fun M' => m_WordCheck_accepts_74 (Int32.ofNat x) M') (n := ol.length) (by
    intro k p M' hp ⟨h1, h2⟩
    have hA' := c3.fc (FC.of h1) (by decide) (by simp)
    obtain ⟨M3, d1, d2, d3⟩ := c_acc35 (k20 := k) (l2 := Int32.ofNat x) (c2.f77 h1) (hw.f77 h1) hn hA' hp h1000 h2
    refine ⟨M3, ⟨h1.tr d2, d3⟩, ?_⟩
    show m_WordCheck_accepts_20b k (Int32.ofNat x) (Int32.ofNat p) M' = _
    unfold m_WordCheck_accepts_20b
    rw [hA'.1.2.1, if_neg (by rw [i_le_of (by omega) (by omega)]; omega), (hw.f77 h1).2.1]
    exact d1) (by
    intro k M' ⟨h1, h2⟩
    have hA' := c3.fc (FC.of h1) (by decide) (by simp)
    show m_WordCheck_accepts_20b k (Int32.ofNat x) (Int32.ofNat ol.length) M' = _
    unfold m_WordCheck_accepts_20b
    rw [hA'.1.2.1, if_pos (Int32.le_refl _)]) M1 (by omega) ⟨Fr.rf, fun p' hp' => absurd hp' (Nat.not_lt_zero _)⟩
  obtain ⟨j, j1, j2⟩ := mem_gD c4
  have htg := (a5 j j1).2.1
  rw [j2] at htg
  have hmk := g2 j j1 0 (Nat.zero_le _)
  rw [j2, Nat.add_zero] at hmk
  have hw2 := hw.f77 g1
  have hI2 := c2.f77 g1
  have heb : m_WordCheck_endBitsOf (Int32.ofNat x) (0 : Int32) M2 = some (M2, gA M2 77 (17 * j)) := c_endBits (s := 0) hI2 hx htg (by omega) (by omega) hw2.2.2
  have hfc : FC [10, 76, 77, 79] [(75, 3), (75, 4), (75, 5), (78, 1)] M M2 := ((hfc0.mono (by simp) (by decide)).tr (c7.mono (by decide) (by decide))).tr ((FC.of g1).mono (by decide) (by simp))
  have hbit := hmk.bit (m := n) (by omega)
  refine ⟨M2, f, decide ((gA M2 77 (17 * j) >>> (Int32.ofNat n &&& 31)) &&& 1 = 1), ?_, by rw [decide_eq_true_eq]; exact hbit, hI2, c5.fc (FC.of g1) (by decide) (by simp), by rw [g1.ln]; exact c6, by rw [g1.ln]; exact a3, hw2.2.2, hfc⟩
  refine Eq.trans (g3 : m_WordCheck_accepts_20 (Int32.ofNat x, 0, M1) = _) ?_
  unfold m_WordCheck_accepts_74
  rw [heb, cal_same, hw2.2.1]
  by_cases hs : (gA M2 77 (17 * j) >>> (Int32.ofNat n &&& 31)) &&& 1 = 1
  · rw [if_neg (fun q => q hs), decide_eq_true hs]
    rfl
  · rw [if_pos hs, decide_eq_false hs]
    rfl
theorem c_has {S : Nat → List Nat} {W : Option (List Nat)} {M : MS} {w : Int32} {a n : Nat} (h : CI S W M) (ha : a < 16) (hn : n ≤ 16) : CX S W M (m_D_has (Int32.ofNat a) w (Int32.ofNat n) M) (HsV (S a) w n) := by
  obtain ⟨g, sl, h⟩ := h
  obtain ⟨q1, q2, q3, q4⟩ := h.slot ha
  have hln := h.ln
  obtain ⟨h1, ⟨r1, r2, r3, r4, r5⟩, h3, h4, ⟨h5, h6⟩, ⟨⟨l0, hq⟩, hq'⟩, h8, h9, h10, h11⟩ := id h
  obtain ⟨M1, f, b, c1, c2, c3, c4, c5, c6, c7, c8⟩ := c_accepts (w := w) (n := n) h1 h9.gd hq h8.2.2.1.1 h8.2.2.1.2 hq' hn q2 q3
  have eq : m_D_has (Int32.ofNat a) w (Int32.ofNat n) M = some (M1, b01 b) := by
    unfold m_D_has
    rw [c_checkSlot ha, cal_same, show (16 : Int32) = Int32.ofNat 16 from rfl, c_checkRange hn (by omega), cal_same, q1, Option.bind_some, cal_some c1 c8.le.1 c8.le.2, nb_b01]
  rw [eq]
  rw [q4] at c2
  refine ⟨b01 b, ⟨M1, rfl, ⟨gtt g f, sl, c3, ⟨by rw [c8.gl (by decide)]; exact r1, by rw [c8.gl (by decide)]; exact r2, Nat.zero_le _, fun s hs => by rw [c8.ga (by decide)]; exact r4 s hs, fun j hj => absurd hj (Nat.not_lt_zero _)⟩, h3.fc c8 (by decide) (by decide), h4, ⟨?_, h6.fc c8 (by decide) (by decide)⟩, ⟨⟨[], c4⟩, c5⟩, ?_, ?_, fun j hj => ?_, ?_⟩, c8.toC (by decide) (by decide)⟩, b, rfl, c2⟩
  · obtain ⟨⟨l1, p1⟩, ⟨l2, p2⟩, ⟨l3, p3⟩, p4⟩ := h5
    refine ⟨⟨l1, p1.fc c8 (by decide) (by decide)⟩, ⟨l2, p2.fc c8 (by decide) (by decide)⟩, ⟨l3, p3.fc c8 (by decide) (by decide)⟩, ?_⟩
    rw [c8.gl (by decide), c8.gl (by decide), c8.gl (by decide), c8.gl (by decide)]
    exact p4
  · refine h8.keep (fun a a1 a2 a3 a4 => ?_)
    by_cases e6 : a = 76
    · rw [e6, c6]; exact h8.2.2.1.1.symm
    · by_cases e7 : a = 77
      · rw [e7, c7]; exact h8.2.2.1.2.symm
      · exact c8.gl (fun q => by
          simp only [List.mem_cons, List.not_mem_nil, or_false] at q
          omega)
  · unfold GX
    rw [c8.gd]
    exact h9
  · have nr : ∀ x, 27 ≤ x → x < 75 → x ∉ [10, 76, 77, 79] := fun x x1 x2 q => by
      simp only [List.mem_cons, List.not_mem_nil, or_false] at q
      omega
    exact (h10 j hj).keep (c8.gi (fun q => by
      simp only [List.mem_cons, List.not_mem_nil, or_false, Prod.mk.injEq] at q
      omega)) (c8.ga (nr _ (by omega) (by omega))) (c8.ga (nr _ (by omega) (by omega)))
  · exact h11.keep (c8.gi (by decide)) (c8.ga (by decide)) (c8.gl (by decide))
