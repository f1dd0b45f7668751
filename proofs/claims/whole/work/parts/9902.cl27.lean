/-! STEP 2, the class: states; a machine that is known -/
theorem mach_then {S : Nat → List Nat} {W : Option (List Nat)} {M : MS} {a : Nat} {β : Type} (h : CI S W M) (ha : a < 16) {k : MS × Nat → Option (MS × β)} {G : Option (MS × β) → Prop}
    (hbig : Big (S a) → ∀ M1, CI S W M1 → FrC M M1 → gI M1 (27 + 3 * a) 2 = -1 → G (k (M1, 27 + 3 * a))) (hm : ∀ q M1, Mch (S a) q → CI S W M1 → FrC M M1 → gI M1 (27 + 3 * a) 2 = Int32.ofNat q.length → XC M1 (27 + 3 * a) q → G (k (M1, 27 + 3 * a))) :
    G (cal cM M (m_Explorer_machineOf (Int32.ofNat a) M) k) := by
  obtain ⟨M1, e1, e2, e3, e4, -⟩ := c_machineOf h ha
  rw [cal_some e1 e3.2.2.1.1 e3.2.2.1.2]
  rcases e4 with ⟨g1, g2⟩ | ⟨q, g1, g2, g3⟩
  · exact hbig g2 M1 e2 e3 g1
  · exact hm q M1 g1 e2 e3 g2 g3
theorem c_states {S : Nat → List Nat} {W : Option (List Nat)} {M : MS} {a : Nat} (h : CI S W M) (ha : a < 16) : CX S W M (m_D_states (Int32.ofNat a) M) (StV (S a)) := by
  unfold m_D_states
  rw [c_checkSlot ha, cal_same]
  refine mach_then h ha (G := fun x => CX S W M x (StV (S a))) (fun hb M1 h1 hf e => ?_) (fun q M1 hm h1 hf e hx => ?_)
  · rw [if_pos (x_mch ha).2.1, c_mcount ha, cal_same]
    exact ⟨_, ⟨M1, rfl, h1, hf⟩, Or.inl ⟨hb, e⟩⟩
  · rw [if_pos (x_mch ha).2.1, c_mcount ha, cal_same]
    exact ⟨_, ⟨M1, rfl, h1, hf⟩, Or.inr ⟨q, hm, e⟩⟩
/-- a known machine, as the later methods read it -/
def MX (a : Nat) (q : List (List Nat)) (M : MS) : Prop := gI M (27 + 3 * a) 2 = Int32.ofNat q.length ∧ XC M (27 + 3 * a) q ∧ CLn (gL M)
theorem MX.fr {a : Nat} {q : List (List Nat)} {M M1 : MS} {R : List Nat} {F : List (Nat × Nat)} (h : MX a q M) (ha : a < 16) (hf : Fr R F M M1) (hR : ∀ x ∈ R, 75 ≤ x) (hF : ∀ p ∈ F, 75 ≤ p.1) : MX a q M1 := by
  obtain ⟨h1, h2, h3⟩ := h
  have nr : ∀ x, x < 75 → x ∉ R := fun x hx q => by have := hR x q; omega
  refine ⟨by rw [hf.gi (fun q => by have := hF _ q; simp only at this; omega)]; exact h1, h2.keep (hf.ga (nr _ (by omega))) (hf.ga (nr _ (by omega))), by rw [hf.ln]; exact h3⟩
theorem MX.count {a : Nat} {q : List (List Nat)} {M : MS} (h : MX a q M) (ha : a < 16) : m_Machine_count (27 + 3 * a) M = some (M, Int32.ofNat q.length) := by rw [c_mcount ha, h.1]
theorem MX.next {a : Nat} {q : List (List Nat)} {M : MS} {t : List Nat} (h : MX a q M) (hm : Mch t q) (ha : a < 16) {i c : Nat} (hi : i < q.length) (hc : c < 4) : m_Machine_next (27 + 3 * a) (Int32.ofNat i) (Int32.ofNat c) M = some (M, Int32.ofNat (nxq q i c)) := by
  have hl := hm.2.1
  rw [c_mnext ha (h.2.2.2.1 a ha).1 (by omega) hc, (h.2.1 i hi).2 c hc]
  rfl
theorem MX.acc {a : Nat} {q : List (List Nat)} {M : MS} {t : List Nat} (h : MX a q M) (hm : Mch t q) (ha : a < 16) {i : Nat} (hi : i < q.length) : m_Machine_isAccepting (27 + 3 * a) (Int32.ofNat i) M = some (M, b01 (NS (q.getD i []))) := by
  have hl := hm.2.1
  rw [c_macc ha (h.2.2.2.1 a ha).2 (by omega), (h.2.1 i hi).1, nb_b01]
theorem nxq_lt {t : List Nat} {q : List (List Nat)} (hm : Mch t q) {i c : Nat} (hi : i < q.length) (hc : c < 4) : nxq q i c < q.length ∧ q.getD (nxq q i c) [] = DS c (q.getD i []) := hm.nx hi hc
/-! languages -/
theorem b01_inj : ∀ {x y : Bool}, b01 x = b01 y → x = y := by decide
theorem bool3 : ∀ (x y z : Bool), (if x = z then 0 else 1) = (if y = z then 0 else 1) → x = y := by decide
theorem stC_of {M : MS} {n : Nat} (h2 : n ≤ gL M 82) (h1 : n ≤ gL M 81) (hn : n < 1000) : ∃ M1, stC M 82 0 81 0 (Int32.ofNat n) = some M1 ∧ Fr [81] [] M M1 ∧ ∀ p, p < n → gA M1 81 p = gA M 82 p := by
  have e : (Int32.ofNat n).toNatClampNeg = n := by rw [i_cl, i_of (by omega)]; omega
  have e0 : (0 : Int32).toNatClampNeg = 0 := rfl
  have hn0 : ¬ ((0 : Int32) < 0 ∨ (0 : Int32) < 0 ∨ Int32.ofNat n < 0 ∨ gL M 82 < 0 + n ∨ gL M 81 < 0 + n) := by
    intro h
    rcases h with h | h | h | h | h
    · exact absurd h (by decide)
    · exact absurd h (by decide)
    · rw [i_lt, i_of (by omega), i_0] at h; omega
    · omega
    · omega
  refine ⟨(fun q => if q = 81 then va_cpy (gA M 82) (gA M 81) 0 0 n else M.1 q, M.2), by unfold stC; rw [e, e0, if_neg hn0], ⟨fun b hb => ⟨?_, rfl⟩, rfl, fun _ _ _ => rfl, rfl, rfl⟩, fun p hp => ?_⟩
  · exact if_neg (fun q => hb (List.mem_singleton.mpr q))
  · show (if 81 = 81 then va_cpy (gA M 82) (gA M 81) 0 0 n else gA M 81) p = _
    rw [if_pos rfl]
    unfold va_cpy
    rw [if_pos (by omega)]
    congr 1
    omega
def RSp : List Nat := [81, 82, 83, 84, 85]
theorem c_splitE {a : Nat} {q : List (List Nat)} {M : MS} {t : List Nat} (h : MX a q M) (hm : Mch t q) (ha : a < 16) : ∃ M1 G g, m_Splitter_splitByEmptyWord (27 + 3 * a) M = some (M1, Int32.ofNat g) ∧ Fr RSp [] M M1 ∧ (∀ i, i < q.length → gA M1 81 i = Int32.ofNat (G i)) ∧ Num q.length G g ∧ Good q G := by
  have hl := hm.2.1
  have hpos := hm.pos.1
  obtain ⟨s, ⟨h1, h2, h3⟩, h4⟩ := lp0 (b := fun (k : Nat × Int32 × Int32 × MS → Option (MS × Int32)) (i : Nat × Int32 × Int32 × MS) => m_Splitter_splitByEmptyWord_4b k i.1 i.2.1 i.2.2.1 i.2.2.2) (fun i (s : Nat × MS) => (27 + 3 * a, Int32.ofNat s.1, Int32.ofNat i, s.2))
    (fun i (s : Nat × MS) => Fr RSp [] M s.2 ∧ (∀ j, j < i → gA s.2 81 j = Int32.ofNat (if NS (q.getD j []) = NS (q.getD 0 []) then 0 else 1)) ∧ ((s.1 = 1 ∧ ∀ j, j < i → NS (q.getD j []) = NS (q.getD 0 [])) ∨ (s.1 = 2 ∧ ∃ j, j < i ∧ NS (q.getD j []) ≠ NS (q.getD 0 [])))) (fun s => some (s.2, Int32.ofNat s.1)) (n := q.length) (by
    intro k i s hi ⟨h1, h2, h3⟩
    have hX := h.fr ha h1 (by decide) (by simp)
    have e1 : m_Machine_isAccepting (27 + 3 * a) (0 : Int32) s.2 = some (s.2, b01 (NS (q.getD 0 []))) := hX.acc hm ha (i := 0) hpos
    have l81 : gL s.2 81 = 150 := hX.2.2.2.2.2.1.1
    by_cases hc : NS (q.getD i []) = NS (q.getD 0 [])
    · refine ⟨(s.1, sA s.2 81 i (Int32.ofNat 0)), ⟨h1.tr (Fr.stA (by decide)), fun j hj => ?_, ?_⟩, ?_⟩
      · rw [gA_sA]
        by_cases e : j = i
        · rw [if_pos ⟨rfl, e⟩, e, if_pos hc]
        · rw [if_neg (fun q => e q.2)]
          exact h2 j (by omega)
      · rcases h3 with ⟨a1, a2⟩ | ⟨a1, j, a2, a3⟩
        · exact Or.inl ⟨a1, fun j hj => by
            by_cases e : j = i
            · rw [e]; exact hc
            · exact a2 j (by omega)⟩
        · exact Or.inr ⟨a1, j, by omega, a3⟩
      · show m_Splitter_splitByEmptyWord_4b k (27 + 3 * a) (Int32.ofNat s.1) (Int32.ofNat i) s.2 = _
        unfold m_Splitter_splitByEmptyWord_4b m_Splitter_splitByEmptyWord_30 m_Splitter_splitByEmptyWord_47
        rw [hX.count ha, cal_same, if_neg (by rw [i_le_of (by omega) (by omega)]; omega), hX.acc hm ha hi, cal_same, e1, cal_same, if_neg (fun q => q (by rw [hc])), if_neg (by decide), st_of (by show i < gL s.2 81; omega) (by omega), Option.bind_some, if_neg (by decide), i_inc]
        rfl
    · refine ⟨(2, sA s.2 81 i (Int32.ofNat 1)), ⟨h1.tr (Fr.stA (by decide)), fun j hj => ?_, Or.inr ⟨rfl, i, by omega, hc⟩⟩, ?_⟩
      · rw [gA_sA]
        by_cases e : j = i
        · rw [if_pos ⟨rfl, e⟩, e, if_neg hc]
        · rw [if_neg (fun q => e q.2)]
          exact h2 j (by omega)
      · show m_Splitter_splitByEmptyWord_4b k (27 + 3 * a) (Int32.ofNat s.1) (Int32.ofNat i) s.2 = _
        unfold m_Splitter_splitByEmptyWord_4b m_Splitter_splitByEmptyWord_30 m_Splitter_splitByEmptyWord_47
        have hne : ¬ b01 (NS (q.getD i [])) = b01 (NS (q.getD 0 [])) := fun e => hc (b01_inj e)
        rw [hX.count ha, cal_same, if_neg (by rw [i_le_of (by omega) (by omega)]; omega), hX.acc hm ha hi, cal_same, e1, cal_same, if_pos hne, if_pos rfl, st_of (by show i < gL s.2 81; omega) (by omega), Option.bind_some, if_pos rfl, i_inc]
        rfl) (by
    intro k s ⟨h1, h2, h3⟩
    have hX := h.fr ha h1 (by decide) (by simp)
    show m_Splitter_splitByEmptyWord_4b k (27 + 3 * a) (Int32.ofNat s.1) (Int32.ofNat q.length) s.2 = _
    unfold m_Splitter_splitByEmptyWord_4b
    rw [hX.count ha, cal_same, if_pos (Int32.le_refl _)]) (1, M) (by omega) ⟨Fr.rf, fun j hj => absurd hj (by omega), Or.inl ⟨rfl, fun j hj => absurd hj (by omega)⟩⟩
  refine ⟨s.2, fun j => if NS (q.getD j []) = NS (q.getD 0 []) then 0 else 1, s.1, ?_, h1, h2, ?_, ?_⟩
  · unfold m_Splitter_splitByEmptyWord
    rw [if_pos (x_mch ha).2.1]
    exact h4
  · rcases h3 with ⟨a1, a2⟩ | ⟨a1, j, a2, a3⟩
    · rw [a1]
      refine ⟨fun i hi => ?_, fun k hk => ⟨0, hpos, ?_⟩⟩
      · show (if _ then 0 else 1) < 1
        rw [if_pos (a2 i hi)]
        omega
      · show (if _ then 0 else 1) = k
        rw [if_pos rfl]
        omega
    · rw [a1]
      refine ⟨fun i hi => ?_, fun k hk => ?_⟩
      · show (if _ then 0 else 1) < 2
        split <;> omega
      · by_cases k0 : k = 0
        · exact ⟨0, hpos, by show (if _ then 0 else 1) = k; rw [if_pos rfl, k0]⟩
        · exact ⟨j, a2, by show (if _ then 0 else 1) = k; rw [if_neg a3]; omega⟩
  · refine ⟨fun i j hi hj e => ?_, fun i j hi hj e => ?_⟩
    · exact bool3 _ _ _ e
    · show (if _ then 0 else 1) = (if _ then 0 else 1)
      rw [e.ns]
/-- a chain of new parts -/
def cS (M : MS) (h : Int32) (l : List Nat) : Prop := match l with
  | [] => h = -1
  | i :: r => h = Int32.ofNat i ∧ cS M (gA M 84 i) r
theorem cS.keep {M M1 : MS} : ∀ {l : List Nat} {h : Int32}, (∀ i ∈ l, gA M1 84 i = gA M 84 i) → cS M h l → cS M1 h l := by
  intro l
  induction l with
  | nil => intro h _ hh; exact hh
  | cons i r ih =>
    intro h hk hh
    exact ⟨hh.1, ih (fun j hj => hk j (List.mem_cons_of_mem _ hj)) (by rw [hk i List.mem_cons_self]; exact hh.2)⟩
theorem c_entry {M : MS} {m to : Nat} {T : Nat → Nat} (l84 : gL M 84 = 150) (l85 : gL M 85 = 150) (hm : m ≤ 150) (hto : to < 1000) (hT : ∀ e, e < m → gA M 85 e = Int32.ofNat (T e) ∧ T e < 1000) :
    ∀ (l : List Nat) (h : Int32) (st F : Nat), cS M h l → (∀ e ∈ l, e < m) → st + l.length ≤ m → l.length < F → ∃ e, fx (fun (k : Int32 × Int32 × Int32 × Int32 × MS → Option (MS × Int32)) (i : Int32 × Int32 × Int32 × Int32 × MS) => m_Splitter_entryFor_11b k i.1 i.2.1 i.2.2.1 i.2.2.2.1 i.2.2.2.2) F (Int32.ofNat to, Int32.ofNat m, h, Int32.ofNat st, M) = some (M, Int32.ofNat e) ∧ ((e ∈ l ∧ T e = to) ∨ (e = m ∧ ∀ x ∈ l, T x ≠ to)) := by
  intro l
  induction l with
  | nil =>
    intro h st F hc _ _ hF
    cases F with
    | zero => omega
    | succ F =>
      refine ⟨m, ?_, Or.inr ⟨rfl, fun x hx => by cases hx⟩⟩
      show m_Splitter_entryFor_11b _ (Int32.ofNat to) (Int32.ofNat m) h (Int32.ofNat st) M = _
      unfold m_Splitter_entryFor_11b
      have hc : h = -1 := hc
      rw [if_pos hc]
      split <;> rfl
  | cons i r ih =>
    intro h st F hc hlm hst hF
    rw [List.length_cons] at hst hF
    obtain ⟨c1, c2⟩ := hc
    have him := hlm i List.mem_cons_self
    obtain ⟨t1, t2⟩ := hT i him
    cases F with
    | zero => omega
    | succ F =>
      by_cases ht : T i = to
      · refine ⟨i, ?_, Or.inl ⟨List.mem_cons_self, ht⟩⟩
        show m_Splitter_entryFor_11b _ (Int32.ofNat to) (Int32.ofNat m) h (Int32.ofNat st) M = _
        unfold m_Splitter_entryFor_11b
        rw [if_neg (by rw [i_le_of (by omega) (by omega)]; omega), c1, if_neg (i_nm1 (by omega)), ld_of (by omega) (by omega), t1, Option.bind_some, if_neg (fun q => q (by rw [ht]))]
      · obtain ⟨e, e1, e2⟩ := ih (gA M 84 i) (st + 1) F c2 (fun e he => hlm e (List.mem_cons_of_mem _ he)) (by omega) (by omega)
        refine ⟨e, ?_, ?_⟩
        · show m_Splitter_entryFor_11b _ (Int32.ofNat to) (Int32.ofNat m) h (Int32.ofNat st) M = _
          unfold m_Splitter_entryFor_11b
          rw [if_neg (by rw [i_le_of (by omega) (by omega)]; omega), c1, if_neg (i_nm1 (by omega)), ld_of (by omega) (by omega), t1, Option.bind_some, if_pos (by rw [i_eq_of (by omega) (by omega)]; exact ht), ld_of (by omega) (by omega), Option.bind_some, i_inc]
          exact e1
        · rcases e2 with ⟨p1, p2⟩ | ⟨p1, p2⟩
          · exact Or.inl ⟨List.mem_cons_of_mem _ p1, p2⟩
          · exact Or.inr ⟨p1, fun x hx => by
              rcases List.mem_cons.mp hx with rfl | hx
              · exact ht
              · exact p2 x hx⟩
/-- splitting: behind i states, m new parts -/
def SPI (q : List (List Nat)) (G : Nat → Nat) (g c : Nat) (M : MS) (i m : Nat) (O T H : Nat → Nat) : Prop := m ≤ i ∧ (∀ e, e < m → gA M 85 e = Int32.ofNat (T e) ∧ T e < 1000) ∧
  (∀ p, p < g → ∃ l, cS M (gA M 83 p) l ∧ l.Nodup ∧ ∀ e, e ∈ l ↔ e < m ∧ O e = p) ∧ (∀ e e', e < m → e' < m → O e = O e' → T e = T e' → e = e') ∧
  (∀ j, j < i → gA M 82 j = Int32.ofNat (H j) ∧ H j < m ∧ O (H j) = G j ∧ T (H j) = G (nxq q j c)) ∧ (∀ e, e < m → ∃ j, j < i ∧ H j = e)
theorem c_split29 {a : Nat} {q : List (List Nat)} {M : MS} {t : List Nat} {G : Nat → Nat} {g c : Nat} (h : MX a q M) (hm : Mch t q) (ha : a < 16) (hc : c < 4) (hG : ∀ i, i < q.length → gA M 81 i = Int32.ofNat (G i)) (hN : Num q.length G g) (h83 : ∀ p, p < g → gA M 83 p = -1) :
    ∃ M1 H m, m_Splitter_splitByLetter_29 (27 + 3 * a, Int32.ofNat c, 0, 0, M) = some (M1, Int32.ofNat m) ∧ Fr RSp [] M M1 ∧ (∀ i, i < q.length → gA M1 81 i = Int32.ofNat (H i)) ∧ Num q.length H m ∧ (∀ i j, i < q.length → j < q.length → (H i = H j ↔ G i = G j ∧ G (nxq q i c) = G (nxq q j c))) := by
  have hl := hm.2.1
  have hgn := hN.le
  have hGl : ∀ i, i < q.length → G i < 1000 := fun i hi => by have := hN.1 i hi; omega
  obtain ⟨s, ⟨O, T, H, h1, h2, ⟨h3, h4, h5, h6, h7, h8⟩⟩, h9⟩ := lp0 (b := fun (k : Nat × Int32 × Int32 × Int32 × MS → Option (MS × Int32)) (i : Nat × Int32 × Int32 × Int32 × MS) => m_Splitter_splitByLetter_29b k i.1 i.2.1 i.2.2.1 i.2.2.2.1 i.2.2.2.2) (fun i (s : Nat × MS) => (27 + 3 * a, Int32.ofNat c, Int32.ofNat s.1, Int32.ofNat i, s.2))
    (fun i (s : Nat × MS) => ∃ O T H, Fr [82, 83, 84, 85] [] M s.2 ∧ (∀ j, j < q.length → gA s.2 81 j = Int32.ofNat (G j)) ∧ SPI q G g c s.2 i s.1 O T H) (fun s => m_Splitter_splitByLetter_136 (27 + 3 * a) (Int32.ofNat s.1) s.2) (n := q.length) (by
    intro k i s hi ⟨O, T, H, h1, h2, ⟨h3, h4, h5, h6, h7, h8⟩⟩
    have hX := h.fr ha h1 (by decide) (by simp)
    obtain ⟨-, -, -, ⟨l81, l82, l83, l84, l85⟩, -⟩ := hX.2.2
    obtain ⟨n1, n2⟩ := nxq_lt hm hi hc
    have hGi := hN.1 i hi
    have hGn := hGl _ n1
    obtain ⟨l, l1, l2, l3⟩ := h5 (G i) hGi
    have hll : l.length ≤ s.1 := by
      have := nodup_leG l (List.range s.1) l2 (fun x hx => List.mem_range.mpr ((l3 x).mp hx).1)
      rwa [List.length_range] at this
    obtain ⟨e, e1, e2⟩ := c_entry (M := s.2) (m := s.1) (to := G (nxq q i c)) (T := T) l84 l85 (by omega) hGn h4 l (gA s.2 83 (G i)) 0 FU l1 (fun x hx => ((l3 x).mp hx).1) (by omega) (by unfold FU; omega)
    have e3 : m_Splitter_entryFor (Int32.ofNat (G i)) (Int32.ofNat (G (nxq q i c))) (Int32.ofNat s.1) s.2 = some (s.2, Int32.ofNat e) := by
      unfold m_Splitter_entryFor
      rw [ld_of (by omega) (by omega), Option.bind_some]
      exact e1
    have gen : ∀ k, m_Splitter_splitByLetter_29b k (27 + 3 * a) (Int32.ofNat c) (Int32.ofNat s.1) (Int32.ofNat i) s.2 = (if ¬ Int32.ofNat e = Int32.ofNat s.1 then (m_Splitter_splitByLetter_121 k (27 + 3 * a) (Int32.ofNat c) (Int32.ofNat s.1) (Int32.ofNat i) (Int32.ofNat e) s.2) else ((stA s.2 85 (Int32.ofNat s.1) (Int32.ofNat (G (nxq q i c)))).bind fun M6 =>
  (ldA M6 81 (Int32.ofNat i)).bind fun v7 =>
  (ldA M6 83 v7).bind fun v8 =>
  (stA M6 84 (Int32.ofNat s.1) v8).bind fun M9 =>
  (ldA M9 81 (Int32.ofNat i)).bind fun v10 =>
  (stA M9 83 v10 (Int32.ofNat s.1)).bind fun M11 =>
  m_Splitter_splitByLetter_121 k (27 + 3 * a) (Int32.ofNat c) (Int32.ofNat s.1 + (1:Int32)) (Int32.ofNat i) (Int32.ofNat e) M11)) := fun k => by
      unfold m_Splitter_splitByLetter_29b
      rw [hX.count ha, cal_same, if_neg (by rw [i_le_of (by omega) (by omega)]; omega), hX.next hm ha hi hc, cal_same]
      show ((ldA s.2 81 (Int32.ofNat (nxq q i c))).bind _) = _
      rw [ld_of (by omega) (by omega), h2 _ n1, Option.bind_some]
      show ((ldA s.2 81 (Int32.ofNat i)).bind _) = _
      rw [ld_of (by omega) (by omega), h2 _ hi, Option.bind_some]
      show cal cM s.2 (m_Splitter_entryFor (Int32.ofNat (G i)) (Int32.ofNat (G (nxq q i c))) (Int32.ofNat s.1) s.2) _ = _
      rw [e3, cal_same]
    rcases e2 with ⟨p1, p2⟩ | ⟨p1, p2⟩
    · obtain ⟨p3, p4⟩ := (l3 e).mp p1
      refine ⟨(s.1, sA s.2 82 i (Int32.ofNat e)), ⟨O, T, updN H i e, h1.tr (Fr.stA (by decide)), fun j hj => ?_, by show s.1 ≤ i + 1; omega, fun x hx => ?_, fun p hp => ?_, h6, fun j hj => ?_, fun x hx => ?_⟩, ?_⟩
      · rw [gA_sA, if_neg (by omega)]
        exact h2 j hj
      · rw [gA_sA, if_neg (by omega)]
        exact h4 x hx
      · obtain ⟨l', a1, a2, a3⟩ := h5 p hp
        refine ⟨l', ?_, a2, a3⟩
        rw [gA_sA, if_neg (by omega)]
        exact cS.keep (fun j hj => by rw [gA_sA, if_neg (by omega)]) a1
      · rw [gA_sA]
        by_cases hj2 : j = i
        · rw [if_pos ⟨rfl, hj2⟩, hj2, updN_eq]
          exact ⟨rfl, p3, p4, p2⟩
        · rw [if_neg (fun q => hj2 q.2), updN_ne _ _ hj2]
          exact h7 j (by omega)
      · obtain ⟨j, j1, j2⟩ := h8 x hx
        exact ⟨j, by omega, by rw [updN_ne _ _ (by omega)]; exact j2⟩
      · refine (gen k).trans ?_
        rw [if_pos (by rw [i_eq_of (by omega) (by omega)]; omega)]
        unfold m_Splitter_splitByLetter_121
        rw [st_of (by omega) (by omega), Option.bind_some, i_inc]
    · subst p1
      generalize hM4 : sA (sA (sA (sA s.2 85 s.1 (Int32.ofNat (G (nxq q i c)))) 84 s.1 (gA s.2 83 (G i))) 83 (G i) (Int32.ofNat s.1)) 82 i (Int32.ofNat s.1) = M4
      have g85 : ∀ x, gA M4 85 x = if x = s.1 then Int32.ofNat (G (nxq q i c)) else gA s.2 85 x := fun x => by
        rw [← hM4, gA_sA, if_neg (by omega), gA_sA, if_neg (by omega), gA_sA, if_neg (by omega), gA_sA]
        simp
      have g84 : ∀ x, gA M4 84 x = if x = s.1 then gA s.2 83 (G i) else gA s.2 84 x := fun x => by
        rw [← hM4, gA_sA, if_neg (by omega), gA_sA, if_neg (by omega), gA_sA]
        by_cases hx : x = s.1
        · rw [if_pos ⟨rfl, hx⟩, if_pos hx]
        · rw [if_neg (by omega), if_neg hx, gA_sA, if_neg (by omega)]
      have g83 : ∀ x, gA M4 83 x = if x = G i then Int32.ofNat s.1 else gA s.2 83 x := fun x => by
        rw [← hM4, gA_sA, if_neg (by omega), gA_sA]
        by_cases hx : x = G i
        · rw [if_pos ⟨rfl, hx⟩, if_pos hx]
        · rw [if_neg (by omega), if_neg hx, gA_sA, if_neg (by omega), gA_sA, if_neg (by omega)]
      have g82 : ∀ x, gA M4 82 x = if x = i then Int32.ofNat s.1 else gA s.2 82 x := fun x => by
        rw [← hM4, gA_sA]
        by_cases hx : x = i
        · rw [if_pos ⟨rfl, hx⟩, if_pos hx]
        · rw [if_neg (by omega), if_neg hx, gA_sA, if_neg (by omega), gA_sA, if_neg (by omega), gA_sA, if_neg (by omega)]
      have g81 : ∀ x, gA M4 81 x = gA s.2 81 x := fun x => by
        rw [← hM4, gA_sA, if_neg (by omega), gA_sA, if_neg (by omega), gA_sA, if_neg (by omega), gA_sA, if_neg (by omega)]
      refine ⟨(s.1 + 1, M4), ⟨updN O s.1 (G i), updN T s.1 (G (nxq q i c)), updN H i s.1, ?_, fun j hj => ?_, by show s.1 + 1 ≤ i + 1; omega, fun x hx => ?_, fun p hp => ?_, fun x y hx hy ho ht => ?_, fun j hj => ?_, fun x hx => ?_⟩, ?_⟩
      · rw [← hM4]
        exact (((h1.tr (Fr.stA (by decide))).tr (Fr.stA (by decide))).tr (Fr.stA (by decide))).tr (Fr.stA (by decide))
      · rw [g81]
        exact h2 j hj
      · rw [g85]
        by_cases hxs : x = s.1
        · rw [if_pos hxs, hxs, updN_eq]
          exact ⟨rfl, hGn⟩
        · have hx : x < s.1 + 1 := hx
          rw [if_neg hxs, updN_ne _ _ hxs]
          exact h4 x (by omega)
      · have keep : ∀ {l' : List Nat} {hh : Int32}, (∀ e ∈ l', e < s.1) → cS s.2 hh l' → cS M4 hh l' := fun hl' hcs => cS.keep (fun j hj => by rw [g84, if_neg (by have := hl' j hj; omega)]) hcs
        rw [g83]
        by_cases hpg : p = G i
        · rw [if_pos hpg]
          refine ⟨s.1 :: l, ⟨rfl, ?_⟩, List.nodup_cons.mpr ⟨fun q => by have := ((l3 _).mp q).1; omega, l2⟩, fun e => ?_⟩
          · rw [g84, if_pos rfl]
            exact keep (fun x hx => ((l3 x).mp hx).1) l1
          · rw [List.mem_cons, l3]
            by_cases hes : e = s.1
            · rw [hes, updN_eq]
              exact ⟨fun _ => ⟨Nat.lt_succ_self _, hpg.symm⟩, fun _ => Or.inl rfl⟩
            · rw [updN_ne _ _ hes, hpg]
              constructor
              · intro q
                rcases q with q | q
                · exact absurd q hes
                · exact ⟨by show e < s.1 + 1; omega, q.2⟩
              · intro q
                have q1 : e < s.1 + 1 := q.1
                exact Or.inr ⟨by omega, q.2⟩
        · rw [if_neg hpg]
          obtain ⟨l', a1, a2, a3⟩ := h5 p hp
          refine ⟨l', keep (fun x hx => ((a3 x).mp hx).1) a1, a2, fun e => ?_⟩
          rw [a3]
          by_cases hes : e = s.1
          · rw [hes, updN_eq]
            exact ⟨fun q => by omega, fun q => absurd q.2.symm hpg⟩
          · rw [updN_ne _ _ hes]
            constructor
            · exact fun q => ⟨by show e < s.1 + 1; omega, q.2⟩
            · intro q
              have q1 : e < s.1 + 1 := q.1
              exact ⟨by omega, q.2⟩
      · have hx : x < s.1 + 1 := hx
        have hy : y < s.1 + 1 := hy
        have key : ∀ z, z < s.1 → O z = G i → T z ≠ G (nxq q i c) := fun z hz ho => p2 z ((l3 z).mpr ⟨hz, ho⟩)
        by_cases hxs : x = s.1
        · by_cases hys : y = s.1
          · omega
          · rw [hxs, updN_eq, updN_ne _ _ hys] at ho ht
            exact absurd ht.symm (key y (by omega) ho.symm)
        · by_cases hys : y = s.1
          · rw [hys, updN_eq, updN_ne _ _ hxs] at ho ht
            exact absurd ht (key x (by omega) ho)
          · rw [updN_ne _ _ hxs, updN_ne _ _ hys] at ho ht
            exact h6 x y (by omega) (by omega) ho ht
      · rw [g82]
        by_cases hj2 : j = i
        · rw [if_pos hj2, hj2, updN_eq, updN_eq, updN_eq]
          exact ⟨rfl, Nat.lt_succ_self _, rfl, rfl⟩
        · obtain ⟨b1, b2, b3, b4⟩ := h7 j (by omega)
          rw [if_neg hj2, updN_ne _ _ hj2, updN_ne _ _ (by omega), updN_ne _ _ (by omega)]
          exact ⟨b1, by show H j < s.1 + 1; omega, b3, b4⟩
      · have hx : x < s.1 + 1 := hx
        by_cases hxs : x = s.1
        · exact ⟨i, by omega, by rw [updN_eq, hxs]⟩
        · obtain ⟨j, j1, j2⟩ := h8 x (by omega)
          exact ⟨j, by omega, by rw [updN_ne _ _ (by omega)]; exact j2⟩
      · refine (gen k).trans ?_
        rw [if_neg (fun q => q rfl), st_of (by omega) (by omega), Option.bind_some, ld_of (by show i < gL s.2 81; omega) (by omega), gA_sA, if_neg (by omega), h2 i hi, Option.bind_some, ld_of (by show G i < gL s.2 83; omega) (by omega), gA_sA, if_neg (by omega), Option.bind_some, st_of (by show s.1 < gL s.2 84; omega) (by omega), Option.bind_some, ld_of (by show i < gL s.2 81; omega) (by omega), gA_sA, if_neg (by omega), gA_sA, if_neg (by omega), h2 i hi, Option.bind_some, st_of (by show G i < gL s.2 83; omega) (by omega), Option.bind_some]
        unfold m_Splitter_splitByLetter_121
        rw [st_of (by show i < gL s.2 82; omega) (by omega), Option.bind_some, i_inc, i_inc, hM4]) (by
    intro k s ⟨O, T, H, h1, h2, _⟩
    have hX := h.fr ha h1 (by decide) (by simp)
    show m_Splitter_splitByLetter_29b k (27 + 3 * a) (Int32.ofNat c) (Int32.ofNat s.1) (Int32.ofNat q.length) s.2 = _
    unfold m_Splitter_splitByLetter_29b
    rw [hX.count ha, cal_same, if_pos (Int32.le_refl _)]) (0, M) (by omega) ⟨fun _ => 0, fun _ => 0, fun _ => 0, Fr.rf, hG, Nat.le_refl _, fun e he => absurd he (Nat.not_lt_zero _), fun p hp => ⟨[], h83 p hp, List.nodup_nil, fun e => ⟨(fun q => by cases q), (fun q => absurd q.1 (Nat.not_lt_zero _))⟩⟩, fun e e' he => absurd he (Nat.not_lt_zero _), fun j hj => absurd hj (Nat.not_lt_zero _), fun e he => absurd he (Nat.not_lt_zero _)⟩
  have hX := h.fr ha h1 (by decide) (by simp)
  obtain ⟨-, -, -, ⟨l81, l82, l83, l84, l85⟩, -⟩ := hX.2.2
  obtain ⟨M1, c1, c2, c3⟩ := stC_of (M := s.2) (n := q.length) (by omega) (by omega) (by omega)
  refine ⟨M1, H, s.1, ?_, (h1.mono (by decide) (by decide)).tr (c2.mono (by decide) (by decide)), fun i hi => ?_, ⟨fun i hi => (h7 i hi).2.1, h8⟩, fun i j hi hj => ?_⟩
  · refine h9.trans ?_
    unfold m_Splitter_splitByLetter_136
    rw [hX.count ha, cal_same]
    show ((stC s.2 82 0 81 0 (Int32.ofNat q.length)).bind _) = _
    rw [c1, Option.bind_some]
  · rw [c3 i hi]
    exact (h7 i hi).1
  · obtain ⟨-, i1, i2, i3⟩ := h7 i hi
    obtain ⟨-, j1, j2, j3⟩ := h7 j hj
    constructor
    · intro e
      rw [← i2, ← j2, ← i3, ← j3, e]
      exact ⟨rfl, rfl⟩
    · intro ⟨e1, e2⟩
      exact h6 _ _ i1 j1 (by rw [i2, j2]; exact e1) (by rw [i3, j3]; exact e2)
