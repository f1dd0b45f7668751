/-! STEP 2: the reference's languages -/
theorem fx_one {ι β : Type} (b : (ι → Option β) → ι → Option β) (i : ι) : fx b FU i = b (fx b 1099511627775) i := rfl
/-- alike, from a letter on -/
def an (q : List (List Nat)) (G : Nat → Nat) (i j n c : Nat) : Bool := match n with
  | 0 => true
  | n + 1 => decide (G (nxq q i c) = G (nxq q j c)) && an q G i j n (c + 1)
def aLB (q : List (List Nat)) (G : Nat → Nat) (i j : Nat) : Bool := decide (G i = G j) && an q G i j 4 0
theorem aLB_iff {q : List (List Nat)} {G : Nat → Nat} {i j : Nat} : aLB q G i j = true ↔ (G i = G j ∧ ∀ c, c < 4 → G (nxq q i c) = G (nxq q j c)) := by
  unfold aLB an an an an an
  simp only [Bool.and_eq_true, decide_eq_true_eq, and_true]
  constructor
  · intro ⟨h, h0, h1, h2, h3⟩
    refine ⟨h, fun c hc => ?_⟩
    rcases (show c = 0 ∨ c = 1 ∨ c = 2 ∨ c = 3 by omega) with rfl | rfl | rfl | rfl
    · exact h0
    · exact h1
    · exact h2
    · exact h3
  · intro ⟨h, hc⟩
    exact ⟨h, hc 0 (by omega), hc 1 (by omega), hc 2 (by omega), hc 3 (by omega)⟩
def GR (M : MS) (a n : Nat) (G : Nat → Nat) : Prop := ∀ i, i < n → gA M a i = Int32.ofNat (G i) ∧ G i < 1000
theorem r_alike24 {M : MS} {t : List Nat} {q : List (List Nat)} {G : Nat → Nat} {i j : Nat} (hm : Mch t q) (hX : XM M q) (l10 : gL M 110 = 600) (l12 : gL M 112 = 150) (hG : GR M 112 q.length G) (hi : i < q.length) (hj : j < q.length) :
    ∀ (n c : Nat) (e : Bool) (F : Nat), c + n = 4 → n < F → fx (fun (k : Int32 × Int32 × Int32 × Int32 × MS → Option (MS × Int32)) (i : Int32 × Int32 × Int32 × Int32 × MS) => m_Mo_alike_24b k i.1 i.2.1 i.2.2.1 i.2.2.2.1 i.2.2.2.2) F (Int32.ofNat i, Int32.ofNat j, b01 e, Int32.ofNat c, M) = some (M, b01 (e && an q G i j n c)) := by
  have hl := hm.2.1
  intro n
  induction n with
  | zero =>
    intro c e F h1 h2
    have hc : c = 4 := by omega
    subst hc
    cases F with
    | zero => omega
    | succ F =>
      show m_Mo_alike_24b _ (Int32.ofNat i) (Int32.ofNat j) (b01 e) (Int32.ofNat 4) M = _
      unfold m_Mo_alike_24b an
      rw [if_pos (by decide), nb_b01, Bool.and_true]
  | succ n ih =>
    intro c e F h1 h2
    cases F with
    | zero => omega
    | succ F =>
      show m_Mo_alike_24b _ (Int32.ofNat i) (Int32.ofNat j) (b01 e) (Int32.ofNat c) M = _
      have hc : c < 4 := by omega
      obtain ⟨i1, -⟩ := hm.nx hi hc
      obtain ⟨j1, -⟩ := hm.nx hj hc
      have han : an q G i j (n + 1) c = (decide (G (nxq q i c) = G (nxq q j c)) && an q G i j n (c + 1)) := rfl
      unfold m_Mo_alike_24b
      rw [if_neg (by rw [show (4 : Int32) = Int32.ofNat 4 from rfl, i_le_of (by omega) (by omega)]; omega), han, i_inc]
      cases e with
      | false =>
        rw [if_pos (by decide)]
        exact ih (c + 1) false F (by omega) (by omega)
      | true =>
        obtain ⟨u1, u2⟩ := hG _ i1
        obtain ⟨v1, v2⟩ := hG _ j1
        rw [if_neg (by decide), show (4 : Int32) = Int32.ofNat 4 from rfl, i_mul_of, i_add_of, ld_of (by omega) (by omega), (hX i hi).2 c hc]
        simp only [Option.bind_some]
        rw [ld_of (by omega) (by omega), u1]
        simp only [Option.bind_some]
        rw [i_mul_of, i_add_of, ld_of (by omega) (by omega), (hX j hj).2 c hc]
        simp only [Option.bind_some]
        rw [ld_of (by omega) (by omega), v1]
        simp only [Option.bind_some]
        by_cases hq : G (nxq q i c) = G (nxq q j c)
        · have hq' : G (ix (DS c (q.getD i [])) q) = G (ix (DS c (q.getD j [])) q) := hq
          rw [if_neg (by rw [hq']; simp), decide_eq_true hq, Bool.true_and]
          exact ih (c + 1) true F (by omega) (by omega)
        · rw [if_pos (by rw [i_eq_of (by omega) (by omega)]; exact hq), decide_eq_false hq, Bool.false_and]
          exact ih (c + 1) false F (by omega) (by omega)
theorem r_alike {M : MS} {t : List Nat} {q : List (List Nat)} {G : Nat → Nat} {i j : Nat} (hm : Mch t q) (hX : XM M q) (l10 : gL M 110 = 600) (l12 : gL M 112 = 150) (hG : GR M 112 q.length G) (hi : i < q.length) (hj : j < q.length) : m_Mo_alike (Int32.ofNat i) (Int32.ofNat j) M = some (M, b01 (aLB q G i j)) := by
  have hl := hm.2.1
  unfold m_Mo_alike aLB
  obtain ⟨u1, u2⟩ := hG _ hi
  obtain ⟨v1, v2⟩ := hG _ hj
  rw [ld_of (by omega) (by omega), u1]
  simp only [Option.bind_some]
  rw [ld_of (by omega) (by omega), v1]
  simp only [Option.bind_some]
  by_cases h : G i = G j
  · rw [if_neg (by rw [h]; simp), decide_eq_true h]
    exact r_alike24 hm hX l10 l12 hG hi hj 4 0 true FU rfl (by unfold FU; omega)
  · rw [if_pos (by rw [i_eq_of (by omega) (by omega)]; exact h), decide_eq_false h]
    exact r_alike24 hm hX l10 l12 hG hi hj 4 0 false FU rfl (by unfold FU; omega)
/-- a numbering of the first s states, by aLB -/
def NumA (q : List (List Nat)) (G f : Nat → Nat) (s g : Nat) : Prop := Num s f g ∧ ∀ i j, i < s → j < s → (f i = f j ↔ aLB q G i j = true)
theorem aLB_rf (q : List (List Nat)) (G : Nat → Nat) (i : Nat) : aLB q G i i = true := aLB_iff.mpr ⟨rfl, fun _ _ => rfl⟩
theorem aLB_sy {q : List (List Nat)} {G : Nat → Nat} {i j : Nat} (h : aLB q G i j = true) : aLB q G j i = true := by
  have := aLB_iff.mp h
  exact aLB_iff.mpr ⟨this.1.symm, fun c hc => (this.2 c hc).symm⟩
theorem aLB_tr {q : List (List Nat)} {G : Nat → Nat} {i j k : Nat} (h : aLB q G i j = true) (h2 : aLB q G j k = true) : aLB q G i k = true := by
  have h := aLB_iff.mp h
  have h2 := aLB_iff.mp h2
  exact aLB_iff.mpr ⟨h.1.trans h2.1, fun c hc => (h.2 c hc).trans (h2.2 c hc)⟩
theorem NumA.old {q : List (List Nat)} {G f : Nat → Nat} {s g t : Nat} (h : NumA q G f s g) (ht : t < s) (ha : aLB q G s t = true) : NumA q G (fun i => if i = s then f t else f i) (s + 1) g := by
  obtain ⟨⟨h1, h2⟩, h3⟩ := h
  refine ⟨⟨fun i hi => ?_, fun k hk => ?_⟩, fun i j hi hj => ?_⟩
  · show (if i = s then f t else f i) < g
    split
    · exact h1 t ht
    · exact h1 i (by omega)
  · obtain ⟨i, hi, he⟩ := h2 k hk
    exact ⟨i, by omega, by show (if i = s then f t else f i) = k; rw [if_neg (by omega)]; exact he⟩
  · show (if i = s then f t else f i) = (if j = s then f t else f j) ↔ _
    by_cases hi2 : i = s
    · rw [if_pos hi2]
      by_cases hj2 : j = s
      · rw [if_pos hj2, hi2, hj2]
        exact ⟨fun _ => aLB_rf _ _ _, fun _ => rfl⟩
      · rw [if_neg hj2, h3 t j ht (by omega), hi2]
        exact ⟨fun x => aLB_tr ha x, fun x => aLB_tr (aLB_sy ha) x⟩
    · rw [if_neg hi2]
      by_cases hj2 : j = s
      · rw [if_pos hj2, h3 i t (by omega) ht, hj2]
        exact ⟨fun x => aLB_tr x (aLB_sy ha), fun x => aLB_tr x ha⟩
      · rw [if_neg hj2]
        exact h3 i j (by omega) (by omega)
theorem NumA.new {q : List (List Nat)} {G f : Nat → Nat} {s g : Nat} (h : NumA q G f s g) (ha : ∀ t, t < s → aLB q G s t = false) : NumA q G (fun i => if i = s then g else f i) (s + 1) (g + 1) := by
  obtain ⟨⟨h1, h2⟩, h3⟩ := h
  refine ⟨⟨fun i hi => ?_, fun k hk => ?_⟩, fun i j hi hj => ?_⟩
  · show (if i = s then g else f i) < g + 1
    split
    · omega
    · have := h1 i (by omega); omega
  · by_cases hkg : k = g
    · exact ⟨s, by omega, by show (if s = s then g else f s) = k; rw [if_pos rfl, hkg]⟩
    · obtain ⟨i, hi, he⟩ := h2 k (by omega)
      exact ⟨i, by omega, by show (if i = s then g else f i) = k; rw [if_neg (by omega)]; exact he⟩
  · show (if i = s then g else f i) = (if j = s then g else f j) ↔ _
    by_cases hi2 : i = s
    · rw [if_pos hi2]
      by_cases hj2 : j = s
      · rw [if_pos hj2, hi2, hj2]
        exact ⟨fun _ => aLB_rf _ _ _, fun _ => rfl⟩
      · rw [if_neg hj2, hi2]
        have := h1 j (by omega)
        have h4 := ha j (by omega)
        constructor
        · intro x; omega
        · intro x; rw [h4] at x; cases x
    · rw [if_neg hi2]
      by_cases hj2 : j = s
      · rw [if_pos hj2, hj2]
        have := h1 i (by omega)
        have h4 := ha i (by omega)
        constructor
        · intro x; omega
        · intro x; have := aLB_sy x; rw [h4] at this; cases this
      · rw [if_neg hj2]
        exact h3 i j (by omega) (by omega)
def LQ (t : List Nat) (q : List (List Nat)) (M0 : MS) (r : MS × Int32) : Prop := ∃ G g, (∀ i j, i < q.length → j < q.length → (G i = G j ↔ Eqv (q.getD i []) (q.getD j []))) ∧ Num q.length G g ∧ r.2 = Int32.ofNat g ∧ Fr [112, 113] [] M0 r.1
/-- one round: the states are numbered anew -/
theorem r_lang88 {M0 : MS} {t : List Nat} {q : List (List Nat)} {G : Nat → Nat} {k70 : Int32 × Int32 × Int32 × MS → Option (MS × Int32)} {l4 : Int32} {Q : MS × Int32 → Prop} (hm : Mch t q) (hX : XM M0 q) (l10 : gL M0 110 = 600) (l12 : gL M0 112 = 150) (l13 : gL M0 113 = 150)
    (hk : ∀ f g M, NumA q G f q.length g → GR M 112 q.length f → Fr [112, 113] [] M0 M → Ok (k70 (Int32.ofNat q.length, Int32.ofNat g, l4, M)) Q) (M : MS) (hG : GR M 112 q.length G) (hf : Fr [112, 113] [] M0 M) : Ok (m_Mo_languages_88 k70 (Int32.ofNat q.length, 0, l4, 0, M)) Q := by
  have hl := hm.2.1
  unfold m_Mo_languages_88
  refine ok_fx (inv := fun z => ∃ (s g : Nat) (f : Nat → Nat) (M : MS), z = (Int32.ofNat q.length, Int32.ofNat g, l4, Int32.ofNat s, M) ∧ s ≤ q.length ∧ g ≤ s ∧ NumA q G f s g ∧ GR M 112 q.length G ∧ GR M 113 s f ∧ Fr [112, 113] [] M0 M) (μ := fun z => 150 - z.2.2.2.1.toInt.toNat) ?_ _ ⟨0, 0, fun _ => 0, M, rfl, by omega, by omega, ⟨⟨fun i hi => by omega, fun k hk => by omega⟩, fun i j hi hj => by omega⟩, hG, fun i hi => by omega, hf⟩ (by unfold FU; omega)
  intro k88 z hz ih
  obtain ⟨s, g, f, M, rfl, hs, hgs, hN, hG, hH, hf⟩ := hz
  show Ok (m_Mo_languages_88b k70 k88 (Int32.ofNat q.length) (Int32.ofNat g) l4 (Int32.ofNat s) M) _
  unfold m_Mo_languages_88b
  by_cases hsn : s = q.length
  · rw [if_pos (by rw [hsn]; exact Int32.le_refl _)]
    rw [hsn] at hN hH
    unfold m_Mo_languages_170
    refine ok_fx (inv := fun z => ∃ (i : Nat) (M : MS), z = (Int32.ofNat q.length, Int32.ofNat g, l4, Int32.ofNat i, M) ∧ i ≤ q.length ∧ GR M 112 i f ∧ GR M 113 q.length f ∧ Fr [112, 113] [] M0 M) (μ := fun z => 150 - z.2.2.2.1.toInt.toNat) ?_ _ ⟨0, M, rfl, by omega, fun i hi => by omega, hH, hf⟩ (by unfold FU; omega)
    intro k170 z hz ih3
    obtain ⟨i, M, rfl, hi, hG, hH, hf⟩ := hz
    show Ok (m_Mo_languages_170b k70 k170 (Int32.ofNat q.length) (Int32.ofNat g) l4 (Int32.ofNat i) M) _
    unfold m_Mo_languages_170b
    by_cases hin : i = q.length
    · rw [if_pos (by rw [hin]; exact Int32.le_refl _)]
      rw [hin] at hG
      exact hk f g M hN hG hf
    · have hil : i < q.length := by omega
      rw [if_neg (by rw [i_le_of (by omega) (by omega)]; omega), ld_of (by rw [hf.ln]; omega) (by omega), (hH i hil).1]
      simp only [Option.bind_some]
      rw [st_of (by rw [hf.ln]; omega) (by omega), i_inc]
      simp only [Option.bind_some]
      refine ih3 (Int32.ofNat q.length, Int32.ofNat g, l4, Int32.ofNat (i + 1), sA M 112 i (Int32.ofNat (f i))) ⟨i + 1, _, rfl, by omega, fun j hj => ?_, fun j hj => ?_, hf.tr (Fr.stA (by decide))⟩ (by show 150 - (Int32.ofNat (i + 1)).toInt.toNat < 150 - (Int32.ofNat i).toInt.toNat; rw [i_of (by omega), i_of (by omega)]; omega)
      · rw [gA_sA]
        by_cases hji : j = i
        · rw [if_pos ⟨rfl, hji⟩, hji]; exact ⟨rfl, (hH i hil).2⟩
        · rw [if_neg (by omega)]; exact hG j (by omega)
      · rw [gA_sA, if_neg (by omega)]; exact hH j hj
  · have hsl : s < q.length := by omega
    have hXM := hX.fr hf (by decide) (by decide)
    rw [if_neg (by rw [i_le_of (by omega) (by omega)]; omega)]
    unfold m_Mo_languages_97
    refine ok_fx (inv := fun z => ∃ (u : Nat), z = (Int32.ofNat q.length, Int32.ofNat g, l4, Int32.ofNat s, Int32.ofNat u, M) ∧ u ≤ s ∧ ∀ v, v < u → aLB q G s v = false) (μ := fun z => 150 - z.2.2.2.2.1.toInt.toNat) ?_ _ ⟨0, rfl, by omega, fun v hv => by omega⟩ (by unfold FU; omega)
    intro k97 z hz ih2
    obtain ⟨u, rfl, hu, hv⟩ := hz
    show Ok (m_Mo_languages_97b k70 k88 k97 (Int32.ofNat q.length) (Int32.ofNat g) l4 (Int32.ofNat s) (Int32.ofNat u) M) _
    unfold m_Mo_languages_97b
    have hput : ∀ (x g' : Nat) (f' : Nat → Nat), NumA q G f' (s + 1) g' → x < 1000 → g' ≤ s + 1 → (∀ i, i < s → f' i = f i) → f' s = x → Ok (k88 (Int32.ofNat q.length, Int32.ofNat g', l4, Int32.ofNat (s + 1), sA M 113 s (Int32.ofNat x))) Q := by
      intro x g' f' h1 h2 h3 h4 h5
      refine ih (Int32.ofNat q.length, Int32.ofNat g', l4, Int32.ofNat (s + 1), sA M 113 s (Int32.ofNat x)) ⟨s + 1, g', f', _, rfl, by omega, h3, h1, fun j hj => ?_, fun j hj => ?_, hf.tr (Fr.stA (by decide))⟩ (by show 150 - (Int32.ofNat (s + 1)).toInt.toNat < 150 - (Int32.ofNat s).toInt.toNat; rw [i_of (by omega), i_of (by omega)]; omega)
      · rw [gA_sA, if_neg (by omega)]; exact hG j hj
      · rw [gA_sA]
        by_cases hjs : j = s
        · rw [if_pos ⟨rfl, hjs⟩, hjs, h5]; exact ⟨rfl, h2⟩
        · rw [if_neg (by omega), h4 j (by omega)]; exact hH j (by omega)
    by_cases hus : u = s
    · rw [if_pos (by rw [hus]; exact Int32.le_refl _)]
      rw [hus] at hv ⊢
      unfold m_Mo_languages_121 m_Mo_languages_145
      rw [if_pos (Int32.le_refl _), st_of (by rw [hf.ln]; omega) (by omega)]
      simp only [Option.bind_some]
      rw [if_pos (Int32.le_refl _), i_inc, i_inc]
      exact hput g (g + 1) _ (hN.new hv) (by omega) (by omega) (fun i hi => if_neg (by omega)) (if_pos rfl)
    · have hul : u < s := by omega
      rw [if_neg (by rw [i_le_of (by omega) (by omega)]; omega), r_alike hm hXM (by rw [hf.ln]; exact l10) (by rw [hf.ln]; exact l12) hG hsl (by omega), cal_same]
      cases ha : aLB q G s u with
      | true =>
        rw [if_pos (by show ¬ b01 true = 0; decide)]
        unfold m_Mo_languages_121 m_Mo_languages_145
        obtain ⟨y1, y2⟩ := hH u hul
        rw [if_neg (by rw [i_le_of (by omega) (by omega)]; omega), ld_of (by rw [hf.ln]; omega) (by omega), y1]
        simp only [Option.bind_some]
        rw [st_of (by rw [hf.ln]; omega) (by omega)]
        simp only [Option.bind_some]
        rw [if_neg (by rw [i_le_of (by omega) (by omega)]; omega), show Int32.ofNat g + 0 = Int32.ofNat g from i_add_of g 0, i_inc]
        exact hput (f u) g _ (hN.old hul ha) y2 (by omega) (fun i hi => if_neg (by omega)) (if_pos rfl)
      | false =>
        rw [if_neg (by show ¬ ¬ b01 false = 0; decide), i_inc]
        refine ih2 (Int32.ofNat q.length, Int32.ofNat g, l4, Int32.ofNat s, Int32.ofNat (u + 1), M) ⟨u + 1, rfl, by omega, fun v hv2 => ?_⟩ (by show 150 - (Int32.ofNat (u + 1)).toInt.toNat < 150 - (Int32.ofNat u).toInt.toNat; rw [i_of (by omega), i_of (by omega)]; omega)
        by_cases hvu : v = u
        · rw [hvu]; exact ha
        · exact hv v (by omega)
theorem r_lang70 {M0 : MS} {t : List Nat} {q : List (List Nat)} (hm : Mch t q) (hX : XM M0 q) (l10 : gL M0 110 = 600) (l12 : gL M0 112 = 150) (l13 : gL M0 113 = 150) (M : MS) (G : Nat → Nat) (hG : GR M 112 q.length G) (hgd : Good q G) (hf : Fr [112, 113] [] M0 M) : Ok (m_Mo_languages_70 (Int32.ofNat q.length, 0, -1, M)) (LQ t q M0) := by
  have hl := hm.2.1
  have hp := hm.pos
  unfold m_Mo_languages_70
  refine ok_fx (inv := fun z => ∃ (g : Nat) (bf : Int32) (G : Nat → Nat) (M : MS), z = (Int32.ofNat q.length, Int32.ofNat g, bf, M) ∧ GR M 112 q.length G ∧ Good q G ∧ Fr [112, 113] [] M0 M ∧ ((g = 0 ∧ bf = -1) ∨ (∃ b : Nat, bf = Int32.ofNat b ∧ Num q.length G g ∧ b ≤ g ∧ (b = g → ∀ i j, i < q.length → j < q.length → G i = G j → ∀ c, c < 4 → G (nxq q i c) = G (nxq q j c))))) (μ := fun z => 2 * (151 - z.2.1.toInt.toNat) + (if z.2.1 = z.2.2.1 then 0 else 1)) ?_ _ ⟨0, -1, G, M, rfl, hG, hgd, hf, Or.inl ⟨rfl, rfl⟩⟩ (by unfold FU; split <;> omega)
  intro k70 z hz ih
  obtain ⟨g, bf, G, M, rfl, hG, hgd, hf, hst⟩ := hz
  show Ok (m_Mo_languages_70b k70 (Int32.ofNat q.length) (Int32.ofNat g) bf M) _
  unfold m_Mo_languages_70b
  by_cases hend : Int32.ofNat g = bf
  · rw [if_pos hend]
    rcases hst with ⟨h1, h2⟩ | ⟨b, h1, h2, h3, h4⟩
    · rw [h1, h2] at hend
      exact absurd hend (by decide)
    · have hgn := h2.le
      have hbg : b = g := by
        rw [h1, i_eq_of (by omega) (by omega)] at hend
        exact hend.symm
      unfold m_Mo_languages_199
      rw [if_pos (i_nm1 (by omega))]
      exact ok_some ⟨G, g, hgd.all hm (h4 hbg), h2, rfl, hf⟩
  · rw [if_neg hend, if_neg (by rw [i_le, i_of (by omega), i_0]; omega)]
    refine r_lang88 hm hX l10 l12 l13 (fun f g' M1 hN hG1 hf1 => ?_) M hG hf
    have hgn' := hN.1.le
    have hfine : ∀ i j, i < q.length → j < q.length → f i = f j → G i = G j := fun i j hi hj e => (aLB_iff.mp ((hN.2 i j hi hj).mp e)).1
    have hgd' : Good q f := by
      refine ⟨fun i j hi hj e => hgd.1 i j hi hj (hfine i j hi hj e), fun i j hi hj e => ?_⟩
      refine (hN.2 i j hi hj).mpr (aLB_iff.mpr ⟨hgd.2 i j hi hj e, fun c hc => ?_⟩)
      obtain ⟨i1, i2⟩ := hm.nx hi hc
      obtain ⟨j1, j2⟩ := hm.nx hj hc
      refine hgd.2 _ _ i1 j1 ?_
      unfold nxq at *
      rw [i2, j2]
      exact e.step hc
    have hg1 : 1 ≤ g' := by have := hN.1.1 0 hp.1; omega
    have hgle : g ≤ g' ∧ g ≤ 150 := by
      rcases hst with ⟨h1, h2⟩ | ⟨b, h1, h2, h3, h4⟩
      · omega
      · exact ⟨h2.fine hN.1 hfine, Nat.le_trans h2.le hl⟩
    refine ih (Int32.ofNat q.length, Int32.ofNat g', Int32.ofNat g, M1) ⟨g', Int32.ofNat g, f, M1, rfl, hG1, hgd', hf1, Or.inr ⟨g, rfl, hN.1, hgle.1, fun he => ?_⟩⟩ ?_
    · rcases hst with ⟨h1, h2⟩ | ⟨b, h1, h2, h3, h4⟩
      · omega
      · rw [← he] at hN
        have hsame := h2.same hN.1 hfine
        intro i j hi hj e c hc
        obtain ⟨i1, -⟩ := hm.nx hi hc
        obtain ⟨j1, -⟩ := hm.nx hj hc
        exact hsame _ _ i1 j1 ((aLB_iff.mp ((hN.2 i j hi hj).mp e)).2 c hc)
    · show 2 * (151 - (Int32.ofNat g').toInt.toNat) + (if Int32.ofNat g' = Int32.ofNat g then 0 else 1) < 2 * (151 - (Int32.ofNat g).toInt.toNat) + (if Int32.ofNat g = bf then 0 else 1)
      rw [if_neg hend, i_of (by omega), i_of (by omega)]
      by_cases he : g' = g
      · rw [if_pos (by rw [he]), he]; omega
      · rw [if_neg (by rw [i_eq_of (by omega) (by omega)]; exact he)]; omega
theorem r_languages_bad {S : Nat → List Nat} {W : Option (List Nat)} {M : MS} {a : Int32} (hI : RI S W M) (h : slB a = false) : RA S W M (m_Mo_languages a M) 0 1 := by
  have e : m_Mo_languages a M = some (sI M 97 0 1, 0) := by
    simp only [m_Mo_languages, m_Mo_languages_13, r_isSlot, cal_same, h, b01_f, i10, not_true_eq_false, if_false, r_fail1, cal_sI]
  rw [e]
  exact RA.fail hI _ _
theorem r_languages {S : Nat → List Nat} {W : Option (List Nat)} {M : MS} {a : Nat} (hI : RI S W M) (ha : a < 16) : RX S W M (m_Mo_languages (Int32.ofNat a) M) (LgV (S a)) := by
  have e : m_Mo_languages (Int32.ofNat a) M = m_Mo_languages_13 (Int32.ofNat a) 0 M := by
    simp only [m_Mo_languages, r_isSlot, cal_same, slB_nat ha, b01_t, i10, not_false_eq_true, if_true]
  rw [e]
  unfold m_Mo_languages_13
  rw [r_fail0, cal_sI, if_pos (by show (0 : Int32) = 0; decide)]
  have hI0 := hI.thr 0
  have hth : gI (sI M 97 0 0) 97 0 = 0 := by rw [gI_sI, if_pos ⟨rfl, rfl⟩]
  have hF0 : FrR M (sI M 97 0 0) := FrR.thr 0
  generalize sI M 97 0 0 = M1 at hI0 hth hF0
  refine explore_then hI0 ha (G := fun x => RX S W M x (LgV (S a))) (fun hb M2 hI2 hf => ?_) (fun q M2 hm hX hI2 hf => ?_)
  · have h1 : m_Mo_languages_36 ((-1 : Int32), 0, -1, 0, M2) = some (M2, -1) := by
      unfold m_Mo_languages_36
      rw [fx_one]
      unfold m_Mo_languages_36b
      rw [if_pos (show (-1 : Int32) ≤ 0 by decide)]
      unfold m_Mo_languages_70
      rw [fx_one]
      unfold m_Mo_languages_70b m_Mo_languages_199
      rw [if_neg (show ¬ (0 : Int32) = -1 by decide), if_pos (show (-1 : Int32) ≤ 0 by decide), if_neg (show ¬ ¬ (-1 : Int32) = -1 by decide)]
    refine ⟨-1, ⟨M2, h1, hI2, hF0.tr (FrE hf), by rw [ThE hf]; exact hth⟩, Or.inl ⟨hb, rfl⟩⟩
  · have hql := hm.2.1
    obtain ⟨-, -, ⟨-, -, l10, -, l12, l13, l14, -⟩, -⟩ := hI2.1
    have hgo : Ok (m_Mo_languages_36 (Int32.ofNat q.length, 0, -1, 0, M2)) (LQ (S a) q M2) := by
      unfold m_Mo_languages_36
      refine ok_fx (inv := fun z => ∃ (i : Nat) (M : MS), z = (Int32.ofNat q.length, 0, -1, Int32.ofNat i, M) ∧ i ≤ q.length ∧ GR M 112 i (fun j => if NS (q.getD j []) = true then 1 else 0) ∧ Fr [112, 113] [] M2 M) (μ := fun z => 150 - z.2.2.2.1.toInt.toNat) ?_ _ ⟨0, M2, rfl, by omega, fun j hj => by omega, Fr.rf⟩ (by unfold FU; omega)
      intro k36 z hz ih
      obtain ⟨i, M3, rfl, hi, hG, hf3⟩ := hz
      show Ok (m_Mo_languages_36b k36 (Int32.ofNat q.length) 0 (-1) (Int32.ofNat i) M3) _
      unfold m_Mo_languages_36b
      by_cases hin : i = q.length
      · rw [if_pos (by rw [hin]; exact Int32.le_refl _)]
        rw [hin] at hG
        refine r_lang70 hm hX l10 l12 l13 M3 _ hG ⟨fun i j hi hj e => ?_, fun i j hi hj e => ?_⟩ hf3
        · have e : (if NS (q.getD i []) = true then 1 else 0) = if NS (q.getD j []) = true then 1 else 0 := e
          cases h1 : NS (q.getD i []) <;> cases h2 : NS (q.getD j []) <;> rw [h1, h2] at e <;> simp at e ⊢
        · show (if NS (q.getD i []) = true then 1 else 0) = if NS (q.getD j []) = true then 1 else 0
          rw [e.ns]
      · have hil : i < q.length := by omega
        have hv := ((hX.fr hf3 (by decide) (by decide)) i hil).1
        rw [if_neg (by rw [i_le_of (by omega) (by omega)]; omega), ld_of (by rw [hf3.ln]; omega) (by omega), hv]
        simp only [Option.bind_some]
        have hput : ∀ v : Nat, v < 1000 → v = (if NS (q.getD i []) = true then 1 else 0) → Ok (m_Mo_languages_63 k36 (Int32.ofNat q.length) 0 (-1) (Int32.ofNat i) (Int32.ofNat i) (Int32.ofNat v) M3) (LQ (S a) q M2) := by
          intro v hv1 hv2
          unfold m_Mo_languages_63
          rw [st_of (by rw [hf3.ln]; omega) (by omega), i_inc]
          simp only [Option.bind_some]
          refine ih (Int32.ofNat q.length, 0, -1, Int32.ofNat (i + 1), sA M3 112 i (Int32.ofNat v)) ⟨i + 1, _, rfl, by omega, fun j hj => ?_, hf3.tr (Fr.stA (by decide))⟩ (by show 150 - (Int32.ofNat (i + 1)).toInt.toNat < 150 - (Int32.ofNat i).toInt.toNat; rw [i_of (by omega), i_of (by omega)]; omega)
          rw [gA_sA]
          by_cases hji : j = i
          · rw [if_pos ⟨rfl, hji⟩, hji]
            show Int32.ofNat v = Int32.ofNat (if NS (q.getD i []) = true then 1 else 0) ∧ (if NS (q.getD i []) = true then 1 else 0) < 1000
            rw [← hv2]
            exact ⟨rfl, hv1⟩
          · rw [if_neg (by omega)]; exact hG j (by omega)
        cases hN : NS (q.getD i []) with
        | true => rw [if_neg (by decide)]; exact hput 1 (by omega) (by rw [hN]; rfl)
        | false => rw [if_pos (by decide)]; exact hput 0 (by omega) (by rw [hN]; rfl)
    obtain ⟨r, g1, G, g, g2, g3, g4, g5⟩ := hgo
    have g1' : m_Mo_languages_36 ((M2, Int32.ofNat q.length).2, 0, -1, 0, (M2, Int32.ofNat q.length).1) = some (r.1, r.2) := g1
    rw [g1']
    refine ⟨r.2, ⟨r.1, rfl, hI2.fr g5 (by decide) (by decide) (by decide) (by decide), (hF0.tr (FrE hf)).tr (g5.toR (by decide) (by decide)), ?_⟩, Or.inr ⟨q, G, g, hm, g2, g3, g4⟩⟩
    rw [g5.gi (by decide), ThE hf]
    exact hth
