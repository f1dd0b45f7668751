/-! STEP 2, the class: languages, whole -/
theorem c_split {a : Nat} {q : List (List Nat)} {M : MS} {t : List Nat} {G : Nat → Nat} {g c : Nat} (h : MX a q M) (hm : Mch t q) (ha : a < 16) (hc : c < 4) (hG : ∀ i, i < q.length → gA M 81 i = Int32.ofNat (G i)) (hN : Num q.length G g) :
    ∃ M1 H m, m_Splitter_splitByLetter (27 + 3 * a) (Int32.ofNat c) (Int32.ofNat g) M = some (M1, Int32.ofNat m) ∧ Fr RSp [] M M1 ∧ (∀ i, i < q.length → gA M1 81 i = Int32.ofNat (H i)) ∧ Num q.length H m ∧ (∀ i j, i < q.length → j < q.length → (H i = H j ↔ G i = G j ∧ G (nxq q i c) = G (nxq q j c))) := by
  have hl := hm.2.1
  have hgn := hN.le
  obtain ⟨M1, ⟨h1, h2⟩, h3⟩ := lp0 (b := fun (k : Nat × Int32 × Int32 × Int32 × MS → Option (MS × Int32)) (i : Nat × Int32 × Int32 × Int32 × MS) => m_Splitter_splitByLetter_3b k i.1 i.2.1 i.2.2.1 i.2.2.2.1 i.2.2.2.2) (fun i (M' : MS) => (27 + 3 * a, Int32.ofNat c, Int32.ofNat g, Int32.ofNat i, M'))
    (fun i (M' : MS) => Fr [83] [] M M' ∧ ∀ p, p < i → gA M' 83 p = -1) (fun M' => m_Splitter_splitByLetter_29 (27 + 3 * a, Int32.ofNat c, 0, 0, M')) (n := g) (by
    intro k i M' hi ⟨h1, h2⟩
    have hX := h.fr ha h1 (by decide) (by simp)
    obtain ⟨-, -, -, ⟨l81, l82, l83, l84, l85⟩, -⟩ := hX.2.2
    refine ⟨sA M' 83 i (-1), ⟨h1.tr (Fr.stA (by decide)), fun p hp => ?_⟩, ?_⟩
    · rw [gA_sA]
      by_cases e : p = i
      · rw [if_pos ⟨rfl, e⟩]
      · rw [if_neg (fun q => e q.2)]
        exact h2 p (by omega)
    · show m_Splitter_splitByLetter_3b k (27 + 3 * a) (Int32.ofNat c) (Int32.ofNat g) (Int32.ofNat i) M' = _
      unfold m_Splitter_splitByLetter_3b
      rw [if_neg (by rw [i_le_of (by omega) (by omega)]; omega), st_of (by omega) (by omega), Option.bind_some, i_inc]) (by
    intro k M' _
    show m_Splitter_splitByLetter_3b k (27 + 3 * a) (Int32.ofNat c) (Int32.ofNat g) (Int32.ofNat g) M' = _
    unfold m_Splitter_splitByLetter_3b
    rw [if_pos (Int32.le_refl _)]) M (by omega) ⟨Fr.rf, fun p hp => absurd hp (Nat.not_lt_zero _)⟩
  obtain ⟨M2, H, m, b1, b2, b3, b4, b5⟩ := c_split29 (h.fr ha h1 (by decide) (by simp)) hm ha hc (fun i hi => by rw [h1.ga (by decide)]; exact hG i hi) hN h2
  refine ⟨M2, H, m, ?_, (h1.mono (by decide) (by decide)).tr b2, b3, b4, b5⟩
  unfold m_Splitter_splitByLetter
  rw [if_pos (x_mch ha).2.1]
  exact h3.trans b1
theorem Good.fin {t : List Nat} {q : List (List Nat)} {G H : Nat → Nat} {c : Nat} (hm : Mch t q) (h : Good q G) (hc : c < 4) (hH : ∀ i j, i < q.length → j < q.length → (H i = H j ↔ G i = G j ∧ G (nxq q i c) = G (nxq q j c))) : Good q H := by
  refine ⟨fun i j hi hj e => h.1 i j hi hj ((hH i j hi hj).mp e).1, fun i j hi hj e => (hH i j hi hj).mpr ⟨h.2 i j hi hj e, ?_⟩⟩
  obtain ⟨i1, i2⟩ := nxq_lt hm hi hc
  obtain ⟨j1, j2⟩ := nxq_lt hm hj hc
  refine h.2 _ _ i1 j1 ?_
  rw [i2, j2]
  exact e.step hc
/-- one round -/
theorem c_round {a : Nat} {q : List (List Nat)} {M : MS} {t : List Nat} {G : Nat → Nat} {g : Nat} {l3 : Int32} (h : MX a q M) (hm : Mch t q) (ha : a < 16) (hG : ∀ i, i < q.length → gA M 81 i = Int32.ofNat (G i)) (hN : Num q.length G g) (hD : Good q G) (k8 : Nat × Int32 × Int32 × MS → Option (MS × Int32)) :
    ∃ M1 H m, m_Splitter_countParts_21 k8 (27 + 3 * a, Int32.ofNat g, l3, Int32.ofNat g, 0, M) = m_Splitter_countParts_42 k8 (27 + 3 * a) (Int32.ofNat m) l3 (Int32.ofNat g) M1 ∧ Fr RSp [] M M1 ∧ (∀ i, i < q.length → gA M1 81 i = Int32.ofNat (H i)) ∧ Num q.length H m ∧ Good q H ∧ (∀ i j, i < q.length → j < q.length → H i = H j → G i = G j ∧ ∀ c, c < 4 → G (nxq q i c) = G (nxq q j c)) := by
  obtain ⟨⟨H, m, M1⟩, ⟨h1, h2, h3, h4, h5, h6⟩, h7⟩ := lp0 (b := fun (k : Nat × Int32 × Int32 × Int32 × Int32 × MS → Option (MS × Int32)) (i : Nat × Int32 × Int32 × Int32 × Int32 × MS) => m_Splitter_countParts_21b k8 k i.1 i.2.1 i.2.2.1 i.2.2.2.1 i.2.2.2.2.1 i.2.2.2.2.2) (fun c (s : (Nat → Nat) × Nat × MS) => (27 + 3 * a, Int32.ofNat s.2.1, l3, Int32.ofNat g, Int32.ofNat c, s.2.2))
    (fun c (s : (Nat → Nat) × Nat × MS) => Fr RSp [] M s.2.2 ∧ (∀ i, i < q.length → gA s.2.2 81 i = Int32.ofNat (s.1 i)) ∧ Num q.length s.1 s.2.1 ∧ Good q s.1 ∧ (∀ i j, i < q.length → j < q.length → s.1 i = s.1 j → G i = G j) ∧ (∀ i j, i < q.length → j < q.length → s.1 i = s.1 j → ∀ d, d < c → G (nxq q i d) = G (nxq q j d))) (fun s => m_Splitter_countParts_42 k8 (27 + 3 * a) (Int32.ofNat s.2.1) l3 (Int32.ofNat g) s.2.2) (n := 4) (by
    intro k c s hc ⟨h1, h2, h3, h4, h5, h6⟩
    obtain ⟨M1, H, m, b1, b2, b3, b4, b5⟩ := c_split (h.fr ha h1 (by decide) (by simp)) hm ha hc h2 h3
    refine ⟨(H, m, M1), ⟨h1.tr b2, b3, b4, h4.fin hm hc b5, fun i j hi hj e => h5 i j hi hj ((b5 i j hi hj).mp e).1, fun i j hi hj e d hd => ?_⟩, ?_⟩
    · obtain ⟨e1, e2⟩ := (b5 i j hi hj).mp e
      by_cases hdc : d = c
      · rw [hdc]
        exact h5 _ _ (nxq_lt hm hi hc).1 (nxq_lt hm hj hc).1 e2
      · exact h6 i j hi hj e1 d (by omega)
    · show m_Splitter_countParts_21b k8 k (27 + 3 * a) (Int32.ofNat s.2.1) l3 (Int32.ofNat g) (Int32.ofNat c) s.2.2 = _
      unfold m_Splitter_countParts_21b
      rw [if_neg (by rw [show (4 : Int32) = Int32.ofNat 4 from rfl, i_le_of (by omega) (by omega)]; omega), cal_some b1 b2.le.1 b2.le.2, i_inc]) (by
    intro k s _
    show m_Splitter_countParts_21b k8 k (27 + 3 * a) (Int32.ofNat s.2.1) l3 (Int32.ofNat g) (Int32.ofNat 4) s.2.2 = _
    unfold m_Splitter_countParts_21b
    rw [if_pos (by decide)]) (G, g, M) (by omega) ⟨Fr.rf, hG, hN, hD, fun i j hi hj e => e, fun i j hi hj e d hd => absurd hd (Nat.not_lt_zero _)⟩
  exact ⟨M1, H, m, h7, h1, h2, h3, h4, fun i j hi hj e => ⟨h5 i j hi hj e, h6 i j hi hj e⟩⟩
theorem c_countParts {a : Nat} {q : List (List Nat)} {M : MS} {t : List Nat} (h : MX a q M) (hm : Mch t q) (ha : a < 16) : Ok (m_Splitter_countParts (27 + 3 * a) M) (fun r => Fr RSp [] M r.1 ∧ LgV t r.2) := by
  have hl := hm.2.1
  obtain ⟨M1, G, g, b1, b2, b3, b4, b5⟩ := c_splitE h hm ha
  unfold m_Splitter_countParts
  rw [if_pos (x_mch ha).2.1, cal_some b1 b2.le.1 b2.le.2]
  unfold m_Splitter_countParts_8
  have hg1 : 1 ≤ g := by
    have := b4.1 0 hm.pos.1
    omega
  refine ok_fx (inv := fun z => ∃ G g r M1, z = (27 + 3 * a, Int32.ofNat g, Int32.ofNat r, M1) ∧ Fr RSp [] M M1 ∧ (∀ i, i < q.length → gA M1 81 i = Int32.ofNat (G i)) ∧ Num q.length G g ∧ Good q G ∧ r + 1 ≤ g) (μ := fun z => 151 - z.2.2.1.toInt.toNat) ?_ _ ⟨G, g, 0, M1, rfl, b2, b3, b4, b5, hg1⟩ (by unfold FU; omega)
  intro k z hz ih
  obtain ⟨G, g, r, M1, rfl, b2, b3, b4, b5, hr⟩ := hz
  have hgn := b4.le
  show Ok (m_Splitter_countParts_8b k (27 + 3 * a) (Int32.ofNat g) (Int32.ofNat r) M1) _
  unfold m_Splitter_countParts_8b
  obtain ⟨M2, H, m, d1, d2, d3, d4, d5, d6⟩ := c_round (l3 := Int32.ofNat r) (h.fr ha b2 (by decide) (by simp)) hm ha b3 b4 b5 k
  rw [if_neg (by rw [show (150 : Int32) = Int32.ofNat 150 from rfl, i_le_of (by omega) (by omega)]; omega)]
  refine ok_eq d1 ?_
  unfold m_Splitter_countParts_42
  have hgm := b4.fine d4 (fun i j hi hj e => (d6 i j hi hj e).1)
  have hmn := d4.le
  by_cases e : m = g
  · rw [if_neg (fun q => q (by rw [e]))]
    subst e
    have hsame := b4.same d4 (fun i j hi hj e => (d6 i j hi hj e).1)
    exact ok_some ⟨b2.tr d2, Or.inr ⟨q, G, m, hm, b5.all hm (fun i j hi hj e => (d6 i j hi hj (hsame i j hi hj e)).2), b4, rfl⟩⟩
  · rw [if_pos (by rw [i_eq_of (by omega) (by omega)]; exact e), i_inc]
    exact ih (27 + 3 * a, Int32.ofNat m, Int32.ofNat (r + 1), M2) ⟨H, m, r + 1, M2, rfl, b2.tr d2, d3, d4, d5, by omega⟩ (by show 151 - (Int32.ofNat (r + 1)).toInt.toNat < 151 - (Int32.ofNat r).toInt.toNat; rw [i_of (by omega), i_of (by omega)]; omega)
/-- what a later method writes -/
theorem CI.later {S : Nat → List Nat} {W W' : Option (List Nat)} {M M1 : MS} {R : List Nat} {F : List (Nat × Nat)} (h : CI S W M) (hf : Fr R F M M1) (hR : ∀ a ∈ R, 80 ≤ a ∨ a = 76 ∨ a = 77) (hF : ∀ p ∈ F, 80 ≤ p.1 ∨ p.1 = 75) (hW : WC M W → WC M1 W') : CI S W' M1 := by
  obtain ⟨g, sl, h⟩ := h
  refine ⟨g, sl, h.fcx (FC.of hf) (fun a ha => by have := hR a ha; omega) (fun p hp => by have := hF p hp; omega) hf.ln (fun j hj => ?_) (hW h.2.2.2.2.2.2.2.2.2)⟩
  exact (h.2.2.2.2.2.2.2.2.1 j hj).keep (hf.gi (fun q => by have := hF _ q; simp only at this; omega)) (hf.ga (fun q => by have := hR _ q; omega)) (hf.ga (fun q => by have := hR _ q; omega))
theorem Fr.toC {R : List Nat} {F : List (Nat × Nat)} {M M1 : MS} (h : Fr R F M M1) (hR : ∀ a ∈ R, a < 97) (hF : ∀ p ∈ F, p.1 < 97) : FrC M M1 := (FC.of h).toC hR hF
theorem CI.mx {S : Nat → List Nat} {W : Option (List Nat)} {M : MS} {a : Nat} {q : List (List Nat)} (h : CI S W M) (e : gI M (27 + 3 * a) 2 = Int32.ofNat q.length) (hx : XC M (27 + 3 * a) q) : MX a q M := by
  obtain ⟨g, sl, h⟩ := h
  exact ⟨e, hx, h.ln⟩
theorem c_languages {S : Nat → List Nat} {W : Option (List Nat)} {M : MS} {a : Nat} (h : CI S W M) (ha : a < 16) : CX S W M (m_D_languages (Int32.ofNat a) M) (LgV (S a)) := by
  unfold m_D_languages
  rw [c_checkSlot ha, cal_same]
  refine mach_then h ha (G := fun x => CX S W M x (LgV (S a))) (fun hb M1 h1 hf e => ?_) (fun q M1 hm h1 hf e hx => ?_)
  · rw [if_pos (x_mch ha).2.1, c_mlarge ha, cal_same, if_pos e, if_neg (by show ¬ (1 : Int32) = 0; decide)]
    exact ⟨_, ⟨M1, rfl, h1, hf⟩, Or.inl ⟨hb, rfl⟩⟩
  · have hl := hm.2.1
    have e' : ¬ gI M1 (27 + 3 * a) 2 = -1 := by rw [e]; exact i_nm1 (by omega)
    obtain ⟨r, r1, r2, r3⟩ := c_countParts (h1.mx e hx) hm ha
    rw [if_pos (x_mch ha).2.1, c_mlarge ha, cal_same, if_neg e', if_pos rfl, cal_some r1 r2.le.1 r2.le.2]
    refine ⟨_, ⟨r.1, rfl, h1.later r2 (by decide) (by simp) (fun hw => hw.keep (r2.gi (by simp)) (r2.ga (by decide)) (by rw [r2.ln])), hf.tr (r2.toC (by decide) (by simp))⟩, r3⟩
