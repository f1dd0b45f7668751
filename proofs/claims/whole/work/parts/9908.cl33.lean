/-! STEP 2, the class: ends -/
theorem lv_step {t : List Nat} {k : Nat} : lv t (k + 1) = true ↔ ∃ c, c < 4 ∧ lv (DS c t) k = true := by
  show (lv (DS 0 t) k || lv (DS 1 t) k || lv (DS 2 t) k || lv (DS 3 t) k) = true ↔ _
  simp only [Bool.or_eq_true]
  constructor
  · rintro (((h | h) | h) | h)
    · exact ⟨0, by omega, h⟩
    · exact ⟨1, by omega, h⟩
    · exact ⟨2, by omega, h⟩
    · exact ⟨3, by omega, h⟩
  · rintro ⟨c, hc, h⟩
    rcases (show c = 0 ∨ c = 1 ∨ c = 2 ∨ c = 3 by omega) with rfl | rfl | rfl | rfl
    · exact Or.inl (Or.inl (Or.inl h))
    · exact Or.inl (Or.inl (Or.inr h))
    · exact Or.inl (Or.inr h)
    · exact Or.inr h
theorem lv_run : ∀ (w : List Nat) (t : List Nat) (m : Nat), lw4 w → lv (run t w) m = true → lv t (w.length + m) = true := by
  intro w
  induction w with
  | nil => intro t m _ h; rw [List.length_nil, Nat.zero_add]; exact h
  | cons c w ih =>
    intro t m hw h
    have h1 := ih (DS c t) m (fun d hd => hw d (List.mem_cons_of_mem _ hd)) h
    rw [List.length_cons, show w.length + 1 + m = w.length + m + 1 by omega]
    exact lv_step.mpr ⟨c, hw c List.mem_cons_self, h1⟩
theorem lv_split : ∀ (k : Nat) (t : List Nat) (m : Nat), lv t (k + m) = true → ∃ u, Rc t u ∧ lv u m = true := by
  intro k
  induction k with
  | zero => intro t m h; rw [Nat.zero_add] at h; exact ⟨t, Rc.rf t, h⟩
  | succ k ih =>
    intro t m h
    rw [show k + 1 + m = k + m + 1 by omega] at h
    obtain ⟨c, hc, h1⟩ := lv_step.mp h
    obtain ⟨u, ⟨w, w1, w2⟩, h2⟩ := ih _ m h1
    refine ⟨u, ⟨c :: w, fun d hd => ?_, w2⟩, h2⟩
    rcases List.mem_cons.mp hd with rfl | hd
    · exact hc
    · exact w1 d hd
theorem Mch.short {t : List Nat} {q : List (List Nat)} (h : Mch t q) : ∀ i, i < q.length → ∃ w, lw4 w ∧ w.length ≤ i ∧ q.getD i [] = run t w := by
  intro i
  induction i using Nat.strongRecOn with
  | ind i ih =>
    intro hi
    by_cases h0 : i = 0
    · rw [h0, h.pos.2]
      exact ⟨[], (fun c hc => by cases hc), Nat.le_refl _, rfl⟩
    · obtain ⟨j, hj, c, hc, he⟩ := h.2.2.2.2.2 i (by omega) hi
      obtain ⟨w, w1, w2, w3⟩ := ih j hj (by omega)
      refine ⟨w ++ [c], lw4_snoc w1 hc, by rw [List.length_append, List.length_singleton]; omega, ?_⟩
      rw [← he, w3, run_app]
      rfl
theorem o4_iff {f : Nat → Bool} : ∀ {n : Nat}, o4 f n = true ↔ ∃ i, i < n ∧ f i = true := by
  intro n
  induction n with
  | zero => exact ⟨fun h => (by cases h), fun ⟨i, h, _⟩ => absurd h (Nat.not_lt_zero _)⟩
  | succ n ih =>
    show (o4 f n || f n) = true ↔ _
    rw [Bool.or_eq_true, ih]
    constructor
    · rintro (⟨i, h1, h2⟩ | h)
      · exact ⟨i, by omega, h2⟩
      · exact ⟨n, by omega, h⟩
    · rintro ⟨i, h1, h2⟩
      by_cases e : i = n
      · rw [e] at h2; exact Or.inr h2
      · exact Or.inl ⟨i, by omega, h2⟩
/-- some state has a word of k letters -/
def lvA (q : List (List Nat)) (k : Nat) : Bool := o4 (fun j => lv (q.getD j []) k) q.length
theorem lvA_down {t : List Nat} {q : List (List Nat)} (h : Mch t q) {k : Nat} (hk : lvA q (k + 1) = true) : lvA q k = true := by
  unfold lvA at *
  rw [o4_iff] at *
  obtain ⟨i, h1, h2⟩ := hk
  obtain ⟨c, hc, h3⟩ := lv_step.mp h2
  obtain ⟨n1, n2⟩ := nxq_lt h h1 hc
  exact ⟨_, n1, by rw [n2]; exact h3⟩
theorem lvA_le {t : List Nat} {q : List (List Nat)} (h : Mch t q) {k : Nat} : ∀ d, lvA q (k + d) = true → lvA q k = true := by
  intro d
  induction d with
  | zero => exact fun h => h
  | succ d ih => exact fun hh => ih (lvA_down h hh)
theorem EnV.of {t : List Nat} {q : List (List Nat)} (h : Mch t q) : EnV t (b01 (!lvA q q.length)) := by
  refine Or.inr ⟨q, h, _, rfl, ?_⟩
  rw [Bool.not_eq_true']
  constructor
  · intro hf m h1 h2
    refine Bool.eq_false_iff.mpr (fun ht => ?_)
    obtain ⟨u, u1, u2⟩ := lv_split (m - q.length) t q.length (by rw [Nat.sub_add_cancel h1]; exact ht)
    obtain ⟨x1, x2⟩ := ix_mem (h.all u u1)
    have : lvA q q.length = true := o4_iff.mpr ⟨_, x1, by rw [x2]; exact u2⟩
    rw [hf] at this
    cases this
  · intro hf
    refine Bool.eq_false_iff.mpr (fun ht => ?_)
    obtain ⟨i, i1, i2⟩ := o4_iff.mp ht
    obtain ⟨w, w1, w2, w3⟩ := h.short i i1
    have i2 : lv (q.getD i []) q.length = true := i2
    rw [w3] at i2
    have := lv_run w t q.length w1 i2
    rw [hf _ (by omega) (by omega)] at this
    cases this
/-! the two rows that change places -/
def FrD (M M1 : MS) : Prop := (∀ a, a ≠ 95 → a ≠ 96 → gA M1 a = gA M a) ∧ gJ M1 = gJ M ∧ gL M1 = gL M ∧ gI M1 = gI M ∧ cM M1 = cM M
theorem FrD.rf {M : MS} : FrD M M := ⟨fun _ _ _ => rfl, rfl, rfl, rfl, rfl⟩
theorem FrD.tr {M M1 M2 : MS} (h : FrD M M1) (h2 : FrD M1 M2) : FrD M M2 := ⟨fun a h3 h4 => (h2.1 a h3 h4).trans (h.1 a h3 h4), h2.2.1.trans h.2.1, h2.2.2.1.trans h.2.2.1, h2.2.2.2.1.trans h.2.2.2.1, h2.2.2.2.2.trans h.2.2.2.2⟩
theorem FrD.sA {M : MS} {a j : Nat} {v : Int32} (h : a = 95 ∨ a = 96) : FrD M (sA M a j v) := ⟨fun b h1 h2 => gA_sAn (by omega), rfl, rfl, rfl, rfl⟩
theorem FrD.sD {M : MS} {o k v : Nat} : FrD M (sD M o k v) := ⟨fun _ _ _ => rfl, rfl, rfl, rfl, rfl⟩
theorem FrD.le {M M1 : MS} (h : FrD M M1) : cLe M M1 := cLe.of h.2.2.2.2
theorem MX.frd {a : Nat} {q : List (List Nat)} {M M1 : MS} (h : MX a q M) (ha : a < 16) (hf : FrD M M1) : MX a q M1 := by
  obtain ⟨h1, h2, h3⟩ := h
  refine ⟨by rw [hf.2.2.2.1]; exact h1, h2.keep (hf.1 _ (by omega) (by omega)) (hf.1 _ (by omega) (by omega)), by rw [hf.2.2.1]; exact h3⟩
/-- what the desk holds doesn't ask which of the two rows is which -/
theorem CI.frd {S : Nat → List Nat} {W : Option (List Nat)} {M M1 : MS} (h : CI S W M) (hf : FrD M M1) (hx : GX M1) : CI S W M1 := by
  have hfr : Fr [95, 96] [] M (M1.1, M1.2.1, M1.2.2.1, M1.2.2.2.1, gD M, M1.2.2.2.2.2) := ⟨fun a ha => ⟨hf.1 a (fun q => ha (by rw [q]; decide)) (fun q => ha (by rw [q]; decide)), congrFun hf.2.1 a⟩, hf.2.2.1, fun o k _ => congrFun (congrFun hf.2.2.2.1 o) k, rfl, hf.2.2.2.2⟩
  obtain ⟨g, sl, h1, h2, h3, h4, h5, h6, h7, h8, h9⟩ := h.later hfr (by decide) (by simp) (fun hw => hw.keep (hfr.gi (by simp)) (hfr.ga (by decide)) (by rw [hfr.ln]))
  refine ⟨g, sl, ?_, h2, h3, h4, h5, h6, h7, hx, h9⟩
  obtain ⟨b1, b2, ⟨b3, b4⟩, b5⟩ := h1
  refine ⟨b1, b2, ⟨b3, fun b hb => ?_⟩, b5⟩
  obtain ⟨l, l1, l2⟩ := b4 b hb
  refine ⟨l, ?_, l2⟩
  have go : ∀ (l : List Nat) (h : Int32), cH (M1.1, M1.2.1, M1.2.2.1, M1.2.2.2.1, gD M, M1.2.2.2.2.2) h l → cH M1 h l := by
    intro l
    induction l with
    | nil => intro h hh; exact hh
    | cons i r ih => intro h hh; exact ⟨hh.1, ih _ hh.2⟩
  exact go l _ l1
theorem GX.kd {M : MS} (h : GX M) : x_kd (gD M 93 1) = 22 ∧ x_kd (gD M 93 2) = 22 ∧ (gD M 93 1 = 95 ∨ gD M 93 1 = 96) ∧ (gD M 93 2 = 95 ∨ gD M 93 2 = 96) ∧ gD M 93 1 ≠ gD M 93 2 := by
  rcases h with ⟨a, b⟩ | ⟨a, b⟩ <;> rw [a, b] <;> decide
theorem GX.gl {M : MS} (h : GX M) (hl : CLn (gL M)) : gL M (gD M 93 1) = 150 ∧ gL M (gD M 93 2) = 150 := by
  obtain ⟨-, -, -, -, -, -, l1, l2⟩ := hl
  rcases h with ⟨a, b⟩ | ⟨a, b⟩ <;> rw [a, b]
  · exact ⟨l1, l2⟩
  · exact ⟨l2, l1⟩
/-- the live states stand in the first of the two rows -/
def LV (M : MS) (q : List (List Nat)) (k : Nat) : Prop := ∀ j, j < q.length → gA M (gD M 93 1) j = b01 (lv (q.getD j []) k)
theorem c_back18 {a : Nat} {q : List (List Nat)} {M : MS} {t : List Nat} {k4 : Nat × Int32 × Int32 × MS → Option (MS × Int32)} {l2 : Int32} {k i : Nat} (h : MX a q M) (hm : Mch t q) (ha : a < 16) (hx : GX M) (hi : i < q.length) (hV : LV M q k) :
    m_WordCounts_stepBack_18 k4 (27 + 3 * a, l2, Int32.ofNat i, 0, 0, M) = m_WordCounts_stepBack_57 k4 (27 + 3 * a) l2 (Int32.ofNat i) (b01 (lv (q.getD i []) (k + 1))) M := by
  have hl := hm.2.1
  obtain ⟨x1, x2, x3, x4, x5⟩ := hx.kd
  obtain ⟨g1, g2⟩ := hx.gl h.2.2
  obtain ⟨s, -, h3⟩ := lp0 (b := fun (k : Nat × Int32 × Int32 × Int32 × Int32 × MS → Option (MS × Int32)) (i : Nat × Int32 × Int32 × Int32 × Int32 × MS) => m_WordCounts_stepBack_18b k4 k i.1 i.2.1 i.2.2.1 i.2.2.2.1 i.2.2.2.2.1 i.2.2.2.2.2) (fun c (_ : Unit) => (27 + 3 * a, l2, Int32.ofNat i, b01 (o4 (fun d => lv (DS d (q.getD i [])) k) c), Int32.ofNat c, M)) (fun _ _ => True) (fun _ => m_WordCounts_stepBack_57 k4 (27 + 3 * a) l2 (Int32.ofNat i) (b01 (lv (q.getD i []) (k + 1))) M) (n := 4) (by
    intro k' c s hc _
    refine ⟨(), trivial, ?_⟩
    have eo : o4 (fun d => lv (DS d (q.getD i [])) k) (c + 1) = (o4 (fun d => lv (DS d (q.getD i [])) k) c || lv (DS c (q.getD i [])) k) := rfl
    rw [eo]
    generalize o4 (fun d => lv (DS d (q.getD i [])) k) c = o
    show m_WordCounts_stepBack_18b k4 k' (27 + 3 * a) l2 (Int32.ofNat i) (b01 o) (Int32.ofNat c) M = _
    unfold m_WordCounts_stepBack_18b
    obtain ⟨n1, n2⟩ := nxq_lt hm hi hc
    have e2 := hV _ n1
    rw [n2] at e2
    rw [if_neg (by rw [show (4 : Int32) = Int32.ofNat 4 from rfl, i_le_of (by omega) (by omega)]; omega), i_inc]
    cases o with
    | true =>
      rw [if_pos (by decide), Bool.true_or]
      rfl
    | false =>
      rw [if_neg (by decide), if_pos x1, h.next hm ha hi hc, cal_same, Bool.false_or]
      show ((ldA M (gD M 93 1) (Int32.ofNat (nxq q i c))).bind _) = _
      rw [ld_of (by omega) (by omega), e2, Option.bind_some]
      cases lv (DS c (q.getD i [])) k with
      | true => rw [if_neg (by decide)]; rfl
      | false => rw [if_pos (by decide)]; rfl) (by
    intro k' s _
    show m_WordCounts_stepBack_18b k4 k' (27 + 3 * a) l2 (Int32.ofNat i) _ (Int32.ofNat 4) M = _
    unfold m_WordCounts_stepBack_18b
    rw [if_pos (by decide), lv_o4]) () (by omega) trivial
  exact h3
theorem c_stepBack {a : Nat} {q : List (List Nat)} {M : MS} {t : List Nat} {k : Nat} (h : MX a q M) (hm : Mch t q) (ha : a < 16) (hx : GX M) (hV : LV M q k) :
    ∃ M1, m_WordCounts_stepBack (27 + 3 * a) M = some (M1, b01 (lvA q (k + 1))) ∧ FrD M M1 ∧ GX M1 ∧ LV M1 q (k + 1) := by
  have hl := hm.2.1
  obtain ⟨x1, x2, x3, x4, x5⟩ := hx.kd
  obtain ⟨M1, ⟨h1, h2, h3, h4⟩, h5⟩ := lp0 (b := fun (k : Nat × Int32 × Int32 × MS → Option (MS × Int32)) (i : Nat × Int32 × Int32 × MS) => m_WordCounts_stepBack_4b k i.1 i.2.1 i.2.2.1 i.2.2.2) (fun i (M' : MS) => (27 + 3 * a, b01 (o4 (fun j => lv (q.getD j []) (k + 1)) i), Int32.ofNat i, M'))
    (fun i M' => FrD M M' ∧ gD M' = gD M ∧ LV M' q k ∧ ∀ j, j < i → gA M' (gD M 93 2) j = b01 (lv (q.getD j []) (k + 1))) (fun M' => m_WordCounts_stepBack_86 (b01 (lvA q (k + 1))) M') (n := q.length) (by
    intro k' i M' hi ⟨h1, h2, h3, h4⟩
    have hX := h.frd ha h1
    have hx' : GX M' := by unfold GX; rw [h2]; exact hx
    obtain ⟨g1, g2⟩ := hx'.gl hX.2.2
    refine ⟨sA M' (gD M 93 2) i (b01 (lv (q.getD i []) (k + 1))), ⟨h1.tr (FrD.sA x4), h2, fun j hj => ?_, fun j hj => ?_⟩, ?_⟩
    · show gA (sA M' (gD M 93 2) i _) (gD M' 93 1) j = _
      rw [gA_sA, if_neg (fun q => x5 (by rw [← h2]; rw [h2] at q ⊢; exact q.1))]
      exact h3 j hj
    · rw [gA_sA]
      by_cases e : j = i
      · rw [if_pos ⟨rfl, e⟩, e]
      · rw [if_neg (fun q => e q.2)]
        exact h4 j (by omega)
    · have eo : o4 (fun j => lv (q.getD j []) (k + 1)) (i + 1) = (o4 (fun j => lv (q.getD j []) (k + 1)) i || lv (q.getD i []) (k + 1)) := rfl
      rw [eo]
      generalize o4 (fun j => lv (q.getD j []) (k + 1)) i = o
      show m_WordCounts_stepBack_4b k' (27 + 3 * a) (b01 o) (Int32.ofNat i) M' = _
      unfold m_WordCounts_stepBack_4b
      rw [hX.count ha, cal_same, if_neg (by rw [i_le_of (by omega) (by omega)]; omega)]
      refine (c_back18 (k4 := k') (l2 := b01 o) hX hm ha hx' hi h3).trans ?_
      unfold m_WordCounts_stepBack_57
      rw [h2, if_pos x2, st_ofZ (by rw [← h2]; omega) (by omega), Option.bind_some, nb_b01, i_inc]
      cases o with
      | true => rw [if_pos (by decide), Bool.true_or]; rfl
      | false =>
        rw [if_neg (by decide), Bool.false_or]
        cases lv (q.getD i []) (k + 1) with
        | true => rw [if_neg (by decide)]; rfl
        | false => rw [if_pos (by decide)]; rfl) (by
    intro k' M' ⟨h1, _⟩
    have hX := h.frd ha h1
    show m_WordCounts_stepBack_4b k' (27 + 3 * a) (b01 (lvA q (k + 1))) (Int32.ofNat q.length) M' = _
    unfold m_WordCounts_stepBack_4b
    rw [hX.count ha, cal_same, if_pos (Int32.le_refl _)]) M (by omega) ⟨FrD.rf, rfl, hV, fun j hj => absurd hj (Nat.not_lt_zero _)⟩
  have e1 : gD (sD (sD M1 93 1 (gD M1 93 2)) 93 2 (gD M1 93 1)) 93 1 = gD M1 93 2 := rfl
  have e2 : gD (sD (sD M1 93 1 (gD M1 93 2)) 93 2 (gD M1 93 1)) 93 2 = gD M1 93 1 := rfl
  refine ⟨sD (sD M1 93 1 (gD M1 93 2)) 93 2 (gD M1 93 1), ?_, (h1.tr FrD.sD).tr FrD.sD, ?_, fun j hj => ?_⟩
  · unfold m_WordCounts_stepBack
    rw [if_pos (x_mch ha).2.1]
    refine Eq.trans h5 ?_
    unfold m_WordCounts_stepBack_86
    rw [show x_kd (gD M1 93 1) = 22 by rw [h2]; exact x1, show x_kd (gD M1 93 2) = 22 by rw [h2]; exact x2, if_pos rfl, if_pos rfl, Option.bind_some, Option.bind_some, nb_b01]
  · unfold GX
    rw [e1, e2, h2]
    rcases hx with ⟨p1, p2⟩ | ⟨p1, p2⟩
    · exact Or.inr ⟨p2, p1⟩
    · exact Or.inl ⟨p2, p1⟩
  · rw [e1, h2]
    exact h4 j hj
theorem c_isFinite {a : Nat} {q : List (List Nat)} {M : MS} {t : List Nat} (h : MX a q M) (hm : Mch t q) (ha : a < 16) (hx : GX M) : Ok (m_WordCounts_isFinite (27 + 3 * a) M) (fun r => r.2 = b01 (!lvA q q.length) ∧ FrD M r.1 ∧ GX r.1) := by
  have hl := hm.2.1
  obtain ⟨x1, x2, x3, x4, x5⟩ := hx.kd
  obtain ⟨M1, ⟨h1, h2, h3⟩, h5⟩ := lp0 (b := fun (k : Nat × Int32 × Int32 × Int32 × MS → Option (MS × Int32)) (i : Nat × Int32 × Int32 × Int32 × MS) => m_WordCounts_isFinite_10b k i.1 i.2.1 i.2.2.1 i.2.2.2.1 i.2.2.2.2) (fun i (M' : MS) => (27 + 3 * a, Int32.ofNat q.length, b01 (o4 (fun j => lv (q.getD j []) 0) i), Int32.ofNat i, M'))
    (fun i M' => FrD M M' ∧ gD M' = gD M ∧ ∀ j, j < i → gA M' (gD M 93 1) j = b01 (lv (q.getD j []) 0)) (fun M' => m_WordCounts_isFinite_58 (27 + 3 * a, Int32.ofNat q.length, b01 (lvA q 0), 1, M')) (n := q.length) (by
    intro k' i M' hi ⟨h1, h2, h3⟩
    have hX := h.frd ha h1
    have hx' : GX M' := by unfold GX; rw [h2]; exact hx
    obtain ⟨g1, g2⟩ := hx'.gl hX.2.2
    refine ⟨sA M' (gD M 93 1) i (b01 (lv (q.getD i []) 0)), ⟨h1.tr (FrD.sA x3), h2, fun j hj => ?_⟩, ?_⟩
    · rw [gA_sA]
      by_cases e : j = i
      · rw [if_pos ⟨rfl, e⟩, e]
      · rw [if_neg (fun q => e q.2)]
        exact h3 j (by omega)
    · have eo : o4 (fun j => lv (q.getD j []) 0) (i + 1) = (o4 (fun j => lv (q.getD j []) 0) i || lv (q.getD i []) 0) := rfl
      rw [eo]
      generalize o4 (fun j => lv (q.getD j []) 0) i = o
      show m_WordCounts_isFinite_10b k' (27 + 3 * a) (Int32.ofNat q.length) (b01 o) (Int32.ofNat i) M' = _
      unfold m_WordCounts_isFinite_10b
      have eL : lv (q.getD i []) 0 = NS (q.getD i []) := rfl
      rw [if_neg (by rw [i_le_of (by omega) (by omega)]; omega), h2, if_pos x1, hX.acc hm ha hi, cal_same]
      show ((stZ M' (gD M 93 1) (Int32.ofNat i) (b01 (NS (q.getD i [])))).bind _) = _
      rw [st_ofZ (by rw [← h2]; omega) (by omega), Option.bind_some, nb_b01, i_inc, eL]
      cases o with
      | true => rw [if_pos (by decide), Bool.true_or]; rfl
      | false =>
        have e1 : gD (sA M' (gD M 93 1) i (b01 (NS (q.getD i [])))) 93 1 = gD M 93 1 := by show gD M' 93 1 = _; rw [h2]
        rw [if_neg (by decide), e1, if_pos x1, ld_of (by show i < gL M' _; rw [← h2]; omega) (by omega), gA_sA, if_pos ⟨rfl, rfl⟩, Option.bind_some, Bool.false_or]
        cases NS (q.getD i []) with
        | true => rw [if_neg (by decide)]; rfl
        | false => rw [if_pos (by decide)]; rfl) (by
    intro k' M' _
    show m_WordCounts_isFinite_10b k' (27 + 3 * a) (Int32.ofNat q.length) (b01 (lvA q 0)) (Int32.ofNat q.length) M' = _
    unfold m_WordCounts_isFinite_10b
    rw [if_pos (Int32.le_refl _)]) M (by omega) ⟨FrD.rf, rfl, fun j hj => absurd hj (Nat.not_lt_zero _)⟩
  unfold m_WordCounts_isFinite
  rw [if_pos (x_mch ha).2.1, h.count ha, cal_same]
  refine ok_eq (h5 : m_WordCounts_isFinite_10 (27 + 3 * a, Int32.ofNat q.length, 0, 0, M) = _) ?_
  have hx1 : GX M1 := by unfold GX; rw [h2]; exact hx
  unfold m_WordCounts_isFinite_58
  refine ok_fx (inv := fun z => ∃ k M1, z = (27 + 3 * a, Int32.ofNat q.length, b01 (lvA q k), Int32.ofNat (k + 1), M1) ∧ k ≤ q.length ∧ FrD M M1 ∧ GX M1 ∧ LV M1 q k) (μ := fun z => 152 - z.2.2.2.1.toInt.toNat) ?_ _ ⟨0, M1, rfl, by omega, h1, hx1, fun j hj => by rw [h2]; exact h3 j hj⟩ (by unfold FU; omega)
  intro k58 z hz ih
  obtain ⟨k, M2, rfl, hk, hf, hx2, hV⟩ := hz
  show Ok (m_WordCounts_isFinite_58b k58 (27 + 3 * a) (Int32.ofNat q.length) (b01 (lvA q k)) (Int32.ofNat (k + 1)) M2) _
  unfold m_WordCounts_isFinite_58b m_WordCounts_isFinite_80
  cases hv : lvA q k with
  | false =>
    rw [if_pos (by decide), if_neg (by decide)]
    refine ok_some ⟨?_, hf, hx2⟩
    have : lvA q q.length = false := by
      refine Bool.eq_false_iff.mpr (fun ht => ?_)
      have := lvA_le hm (k := k) (q.length - k) (by rw [Nat.add_sub_cancel' hk]; exact ht)
      rw [hv] at this
      cases this
    rw [this]
    rfl
  | true =>
    rw [if_neg (by decide)]
    by_cases hkn : k = q.length
    · rw [if_pos (by rw [i_lt_of (by omega) (by omega)]; omega), if_pos (by decide)]
      refine ok_some ⟨?_, hf, hx2⟩
      rw [← hkn, hv]
      rfl
    · obtain ⟨M3, b1, b2, b3, b4⟩ := c_stepBack (h.frd ha hf) hm ha hx2 hV
      rw [if_neg (by rw [i_lt_of (by omega) (by omega)]; omega), cal_some b1 b2.le.1 b2.le.2, i_inc]
      exact ih (27 + 3 * a, Int32.ofNat q.length, b01 (lvA q (k + 1)), Int32.ofNat (k + 1 + 1), M3) ⟨k + 1, M3, rfl, by omega, hf.tr b2, b3, b4⟩ (by show 152 - (Int32.ofNat (k + 1 + 1)).toInt.toNat < 152 - (Int32.ofNat (k + 1)).toInt.toNat; rw [i_of (by omega), i_of (by omega)]; omega)
theorem FrD.toC {M M1 : MS} (h : FrD M M1) : FrC M M1 := ⟨fun a ha => ⟨h.1 a (by omega) (by omega), congrFun h.2.1 a, congrFun h.2.2.1 a⟩, fun o k _ => congrFun (congrFun h.2.2.2.1 o) k, h.le, PG.of h.2.2.2.2 h.2.2.1⟩
theorem c_ends {S : Nat → List Nat} {W : Option (List Nat)} {M : MS} {a : Nat} (h : CI S W M) (ha : a < 16) : CX S W M (m_D_ends (Int32.ofNat a) M) (EnV (S a)) := by
  unfold m_D_ends
  rw [c_checkSlot ha, cal_same]
  refine mach_then h ha (G := fun x => CX S W M x (EnV (S a))) (fun hb M1 h1 hf e => ?_) (fun q M1 hm h1 hf e hx => ?_)
  · rw [if_pos (x_mch ha).2.1, c_mlarge ha, cal_same, if_pos e, if_neg (by show ¬ (1 : Int32) = 0; decide)]
    exact ⟨_, ⟨M1, rfl, h1, hf⟩, Or.inl ⟨hb, rfl⟩⟩
  · have hl := hm.2.1
    have e' : ¬ gI M1 (27 + 3 * a) 2 = -1 := by rw [e]; exact i_nm1 (by omega)
    have hX := h1.mx e hx
    have hgx : GX M1 := by
      obtain ⟨g, sl, h2⟩ := h1
      exact h2.2.2.2.2.2.2.2.1
    obtain ⟨r, r1, r2, r3, r4⟩ := c_isFinite hX hm ha hgx
    rw [if_pos (x_mch ha).2.1, c_mlarge ha, cal_same, if_neg e', if_pos rfl, cal_some r1 r3.le.1 r3.le.2, r2]
    have hE := EnV.of hm
    have hci := h1.frd r3 r4
    have hF := hf.tr r3.toC
    cases hb : (!lvA q q.length) with
    | true =>
      rw [hb] at hE
      rw [if_neg (by decide)]
      exact ⟨_, ⟨r.1, rfl, hci, hF⟩, hE⟩
    | false =>
      rw [hb] at hE
      rw [if_pos (by decide)]
      exact ⟨_, ⟨r.1, rfl, hci, hF⟩, hE⟩
