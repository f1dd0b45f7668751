/-! STEP 2: the reference's known and explore -/
/-- the states that stand in the rows -/
def QR (M : MS) (q : List (List Nat)) : Prop := ∀ i u, q[i]? = some u → At M 108 (300 * i) u ∧ gA M 109 i = Int32.ofNat u.length
theorem r_known2 {M : MS} {q : List (List Nat)} {T : List Nat} (hq : QR M q) (h9 : gL M 109 = 150) (hl : q.length ≤ 150) (sq : ∀ u ∈ q, sm u ∧ u.length ≤ 300) (hT : At M 100 0 T) (sT : sm T) (hTl : T.length ≤ 130000) :
    ∀ (v u : List (List Nat)) (F : Nat), q = u ++ v → v.length < F → fx (fun (k : Int32 × Int32 × Int32 × MS → Option (MS × Int32)) (i : Int32 × Int32 × Int32 × MS) => m_Mo_known_2b k i.1 i.2.1 i.2.2.1 i.2.2.2) F (Int32.ofNat q.length, Int32.ofNat T.length, Int32.ofNat u.length, M) = some (M, Int32.ofNat (u.length + ix T v)) := by
  intro v
  induction v with
  | nil =>
    intro u F e hF
    rw [List.append_nil] at e
    subst e
    cases F with
    | zero => simp at hF
    | succ F =>
      show m_Mo_known_2b _ (Int32.ofNat q.length) (Int32.ofNat T.length) (Int32.ofNat q.length) M = _
      unfold m_Mo_known_2b
      rw [if_pos (Int32.le_refl _)]
      rfl
  | cons x v ih =>
    intro u F e hF
    have hlen : q.length = u.length + v.length + 1 := by rw [e, List.length_append, List.length_cons]; omega
    rw [List.length_cons] at hF
    have hx : q[u.length]? = some x := by rw [e]; simp
    obtain ⟨g1, g2⟩ := hq _ _ hx
    obtain ⟨s1, s2⟩ := sq x (List.mem_of_getElem? hx)
    cases F with
    | zero => omega
    | succ F =>
      show m_Mo_known_2b _ (Int32.ofNat q.length) (Int32.ofNat T.length) (Int32.ofNat u.length) M = _
      unfold m_Mo_known_2b
      rw [if_neg (by rw [i_le_of (by omega) (by omega)]; omega), ld_of (by omega) (by omega), g2]
      simp only [Option.bind_some]
      have hsm := r_same (M := M) (a := 108) (b := 100) (by decide) (by decide) g1 hT s1 sT (by omega) (by omega)
      have hsm' : m_Mo_same 108 (Int32.ofNat (300 * u.length)) (Int32.ofNat x.length) 100 (0 : Int32) (Int32.ofNat T.length) M = _ := hsm
      rw [show (300 : Int32) = Int32.ofNat 300 from rfl, i_mul_of, hsm', cal_same]
      by_cases hc : x = T
      · have e0 : ix T (x :: v) = 0 := by unfold ix; rw [if_pos hc]
        rw [if_pos (by simp [hc]), e0]
        rfl
      · have e0 : ix T (x :: v) = ix T v + 1 := by
          conv => lhs; unfold ix
          rw [if_neg hc]
        rw [if_neg (by simp [hc]), e0, i_inc]
        have := ih (u ++ [x]) F (by rw [e, List.append_assoc]; rfl) (by omega)
        rw [List.length_append] at this
        refine this.trans ?_
        congr 3
        simp only [List.length_singleton]
        omega
theorem r_known {M : MS} {q : List (List Nat)} {T : List Nat} (hq : QR M q) (h9 : gL M 109 = 150) (hl : q.length ≤ 150) (sq : ∀ u ∈ q, sm u ∧ u.length ≤ 300) (hT : At M 100 0 T) (sT : sm T) (hTl : T.length ≤ 130000) :
    m_Mo_known (Int32.ofNat q.length) (Int32.ofNat T.length) M = some (M, Int32.ofNat (ix T q)) := by
  have h := r_known2 hq h9 hl sq hT sT hTl q [] FU rfl (by unfold FU; omega)
  rw [List.length_nil, Nat.zero_add] at h
  exact h
def RE : List Nat := [100, 101, 102, 103, 104, 105, 106, 107, 108, 109, 110, 114]
/-- the machine stands in the rows -/
def XM (M : MS) (q : List (List Nat)) : Prop := ∀ i, i < q.length → gA M 114 i = b01 (NS (q.getD i [])) ∧ ∀ c, c < 4 → gA M 110 (4 * i + c) = Int32.ofNat (ix (DS c (q.getD i [])) q)
def EI (t : List Nat) (M0 : MS) (q : List (List Nat)) (s c : Nat) (M : MS) : Prop :=
  (q.Nodup ∧ q[0]? = some t ∧ q.length ≤ 150) ∧ (∀ u ∈ q, Rc t u ∧ wf u ∧ pr u ∧ u.length ≤ 300) ∧ QR M q ∧
  (∀ i d, i < q.length → d < 4 → (i < s ∨ (i = s ∧ d < c)) → DS d (q.getD i []) ∈ q ∧ gA M 110 (4 * i + d) = Int32.ofNat (ix (DS d (q.getD i [])) q)) ∧
  (∀ i, i < q.length → (i < s ∨ (i = s ∧ 0 < c)) → gA M 114 i = b01 (NS (q.getD i []))) ∧
  (∀ i, 0 < i → i < q.length → ∃ j, j < i ∧ ∃ d, d < 4 ∧ DS d (q.getD j []) = q.getD i []) ∧ Fr RE FD M0 M
def EQ (t : List Nat) (M0 : MS) (r : MS × Int32) : Prop := (r.2 = -1 ∧ Big t ∧ Fr RE FD M0 r.1) ∨ (∃ q, r.2 = Int32.ofNat q.length ∧ Mch t q ∧ XM r.1 q ∧ Fr RE FD M0 r.1)
theorem r_explore153 {M : MS} {k51 : Int32 × Int32 × MS → Option (MS × Int32)} {k59 : Int32 × Int32 × Int32 × MS → Option (MS × Int32)} {n : Nat} {l3 l4 : Int32} (T : List Nat) (h8 : gL M 108 = 45000) (h9 : gL M 109 = 150) (hn : n < 150) (hT : At M 100 0 T) (hl : T.length ≤ 300) :
    ∀ (v u : List Nat) (F : Nat), T = u ++ v → v.length < F → fx (fun (k : Int32 × Int32 × Int32 × Int32 × Int32 × MS → Option (MS × Int32)) (i : Int32 × Int32 × Int32 × Int32 × Int32 × MS) => m_Mo_explore_153b k51 k59 k i.1 i.2.1 i.2.2.1 i.2.2.2.1 i.2.2.2.2.1 i.2.2.2.2.2) F (Int32.ofNat n, l3, l4, Int32.ofNat T.length, Int32.ofNat u.length, wr M 108 (300 * n) u) = k59 (Int32.ofNat (n + 1), l3, l4 + 1, sA (wr M 108 (300 * n) T) 109 n (Int32.ofNat T.length)) := by
  intro v
  induction v with
  | nil =>
    intro u F e hF
    rw [List.append_nil] at e
    subst e
    cases F with
    | zero => simp at hF
    | succ F =>
      show m_Mo_explore_153b k51 k59 _ (Int32.ofNat n) l3 l4 (Int32.ofNat T.length) (Int32.ofNat T.length) (wr M 108 (300 * n) T) = _
      unfold m_Mo_explore_153b m_Mo_explore_186
      rw [if_pos (Int32.le_refl _), st_of (by rw [gL_wr]; omega) (by omega)]
      simp only [Option.bind_some]
      rw [i_inc]
  | cons x v ih =>
    intro u F e hF
    have hlen : T.length = u.length + v.length + 1 := by rw [e, List.length_append, List.length_cons]; omega
    rw [List.length_cons] at hF
    cases F with
    | zero => omega
    | succ F =>
      show m_Mo_explore_153b k51 k59 _ (Int32.ofNat n) l3 l4 (Int32.ofNat T.length) (Int32.ofNat u.length) (wr M 108 (300 * n) u) = _
      have hC2 := hT
      rw [e] at hC2
      obtain ⟨g1, g2⟩ := hC2.get
      rw [Nat.zero_add] at g1 g2
      unfold m_Mo_explore_153b
      rw [if_neg (by rw [i_le_of (by omega) (by omega)]; omega), ld_of (by rw [gL_wr]; omega) (by omega), gA_wr, if_neg (by omega), g1]
      simp only [Option.bind_some]
      rw [show (300 : Int32) = Int32.ofNat 300 from rfl, i_mul_of, i_add_of, st_of (by rw [gL_wr]; omega) (by omega)]
      simp only [Option.bind_some]
      rw [wr_snoc, i_inc]
      have := ih (u ++ [x]) F (by rw [e, List.append_assoc]; rfl) (by omega)
      rw [List.length_append] at this
      exact this
theorem st_ofZ {M : MS} {a i : Nat} {x : Int32} (h : i < gL M a) (h2 : i < 2147483648) : stZ M a (Int32.ofNat i) x = some (sA M a i (nb x)) := by
  unfold stZ
  have e : (Int32.ofNat i).toNatClampNeg = i := by rw [i_cl, i_of h2]; omega
  rw [e, if_neg]
  rw [i_lt, i_of h2, i_0]
  omega
theorem ok_eq {α : Type} {x y : Option α} {Q : α → Prop} (e : x = y) (h : Ok y Q) : Ok x Q := by rw [e]; exact h
theorem r_explore59 {t : List Nat} {M0 : MS} {k51 : Int32 × Int32 × MS → Option (MS × Int32)} {s : Nat} (hL0 : RLx (gL M0)) (hk : ∀ q M, EI t M0 q (s + 1) 0 M → s < q.length → Ok (k51 (Int32.ofNat q.length, Int32.ofNat (s + 1), M)) (EQ t M0)) (q : List (List Nat)) (M : MS) (hE : EI t M0 q s 0 M) (hs : s < q.length) :
    Ok (m_Mo_explore_59 k51 (Int32.ofNat q.length, Int32.ofNat s, 0, M)) (EQ t M0) := by
  unfold m_Mo_explore_59
  refine ok_fx (inv := fun i => ∃ q c M, i = (Int32.ofNat q.length, Int32.ofNat s, Int32.ofNat c, M) ∧ EI t M0 q s c M ∧ s < q.length ∧ c ≤ 4) (μ := fun i => 4 - i.2.2.1.toInt.toNat) ?_ _ ⟨q, 0, M, rfl, hE, hs, by omega⟩ (by unfold FU; omega)
  intro k i hi ih
  obtain ⟨q, c, M, rfl, ⟨⟨e1, e2, e3⟩, e4, e5, e6, e7, e8, e9⟩, hs, hc⟩ := hi
  show Ok (m_Mo_explore_59b k51 k (Int32.ofNat q.length) (Int32.ofNat s) (Int32.ofNat c) M) _
  unfold m_Mo_explore_59b
  have hL := hL0
  rw [← e9.ln] at hL
  obtain ⟨hRL, ⟨l8, l9⟩, ⟨m8, m9, m10, m11, m12, m13, m14, m15⟩, -⟩ := hL
  by_cases h4 : c = 4
  · rw [if_pos (by rw [h4]; decide), i_inc]
    refine hk q M ⟨⟨e1, e2, e3⟩, e4, e5, fun i d hi hd h => e6 i d hi hd ?_, fun i hi h => e7 i hi ?_, e8, e9⟩ hs
    · omega
    · omega
  · have hc4 : c < 4 := by omega
    rw [if_neg (by rw [show (4 : Int32) = Int32.ofNat 4 from rfl, i_le_of (by omega) (by omega)]; omega)]
    have hqs := getD_some hs
    obtain ⟨g1, g2⟩ := e5 s _ hqs
    obtain ⟨u1, u2, u3, u4⟩ := e4 _ (getD_mem hs)
    generalize hu : q.getD s [] = u at *
    rw [ld_of (by omega) (by omega), g2]
    simp only [Option.bind_some]
    rw [show (300 : Int32) = Int32.ofNat 300 from rfl, i_mul_of]
    obtain ⟨M1, d1, d2, d3, d4⟩ := r_derived (M := M) (l1 := 108) (c := c) (Or.inr rfl) hc4 u2 u3 u4 (by omega) hRL g1
    rw [cal_some d1 d4.le.1 d4.le.2]
    have hl1 := d4.ln
    rw [show ldA M1 105 (0 : Int32) = some (gA M1 105 0) from ld_of (i := 0) (by rw [hl1, hRL.2.2.1.2.2.2]; omega) (by omega), d3]
    simp only [Option.bind_some]
    rw [st_ofZ (by rw [hl1]; omega) (by omega), nb_b01]
    simp only [Option.bind_some]
    have hfr4 : Fr RE FD M (sA M1 114 s (b01 (NS u))) := (d4.mono (by decide) (by decide)).tr (Fr.stA (by decide))
    have hq4 : QR (sA M1 114 s (b01 (NS u))) q := fun i v hv => by
      obtain ⟨p1, p2⟩ := e5 i v hv
      have hf : Fr (114 :: RD) FD M (sA M1 114 s (b01 (NS u))) := (d4.mono (by decide) (by decide)).tr (Fr.stA (by decide))
      exact ⟨p1.fr hf (by decide), by rw [hf.ga (by decide)]; exact p2⟩
    have hT4 : At (sA M1 114 s (b01 (NS u))) 100 0 (DS c u) := d2.sA_ne (by decide)
    have hwl := d2.1
    rw [hl1, hRL.1] at hwl
    have hdn : ∀ i d, gA (sA M1 114 s (b01 (NS u))) 110 (4 * i + d) = gA M 110 (4 * i + d) := fun i d => by
      rw [gA_sA, if_neg (by omega), d4.ga (by decide)]
    have hhas : ∀ i, i < q.length → (i < s ∨ i = s) → gA (sA M1 114 s (b01 (NS u))) 114 i = b01 (NS (q.getD i [])) := fun i hi h => by
      by_cases his : i = s
      · rw [his, gA_sA, if_pos ⟨rfl, rfl⟩, hu]
      · rw [gA_sA, if_neg (by omega), d4.ga (by decide)]
        exact e7 i hi (by omega)
    generalize sA M1 114 s (b01 (NS u)) = M4 at hfr4 hq4 hT4 hdn hhas
    have hl4 := hfr4.ln
    have hRT : Rc t (DS c u) := u1.step hc4
    by_cases hbig : (DS c u).length ≤ 300
    · rw [if_pos (by rw [i_le_of (by omega) (by omega)]; exact hbig)]
      have sT : sm (DS c u) := sm_DS u2 u3 u4
      have sq : ∀ u ∈ q, sm u ∧ u.length ≤ 300 := fun v hv => by
        obtain ⟨-, v2, v3, v4⟩ := e4 v hv
        exact ⟨sm_wf v2 v3 (by omega), v4⟩
      rw [r_known hq4 (by rw [hl4]; omega) e3 sq hT4 sT (by omega), cal_same]
      have hixl := ix_le (DS c u) q
      rw [show (4 : Int32) = Int32.ofNat 4 from rfl, i_mul_of, i_add_of, st_of (by show _ < gL M4 110; rw [hl4]; omega) (by omega)]
      simp only [Option.bind_some]
      have hfr6 : Fr [110] [] M4 (sA M4 110 (4 * s + c) (Int32.ofNat (ix (DS c u) q))) := Fr.stA (by decide)
      have hq6 : QR (sA M4 110 (4 * s + c) (Int32.ofNat (ix (DS c u) q))) q := fun i v hv => by
        obtain ⟨p1, p2⟩ := hq4 i v hv
        exact ⟨p1.fr hfr6 (by decide), by rw [hfr6.ga (by decide)]; exact p2⟩
      have hdn6 : ∀ i d, d < 4 → gA (sA M4 110 (4 * s + c) (Int32.ofNat (ix (DS c u) q))) 110 (4 * i + d) = if i = s ∧ d = c then Int32.ofNat (ix (DS c u) q) else gA M 110 (4 * i + d) := fun i d hd => by
        rw [gA_sA]
        by_cases h : i = s ∧ d = c
        · rw [if_pos h, if_pos (by omega)]
        · rw [if_neg h, if_neg (by omega), hdn]
      have hhas6 : ∀ i, i < q.length → (i < s ∨ i = s) → gA (sA M4 110 (4 * s + c) (Int32.ofNat (ix (DS c u) q))) 114 i = b01 (NS (q.getD i [])) := fun i hi h => by
        rw [gA_sA, if_neg (by omega)]
        exact hhas i hi h
      have hT6 := hT4.fr hfr6 (by decide)
      have hfrA : Fr RE FD M (sA M4 110 (4 * s + c) (Int32.ofNat (ix (DS c u) q))) := hfr4.tr (hfr6.mono (by decide) (by decide))
      generalize sA M4 110 (4 * s + c) (Int32.ofNat (ix (DS c u) q)) = M6 at hq6 hdn6 hhas6 hT6 hfrA
      have hl6 := hfrA.ln
      by_cases hm : DS c u ∈ q
      · obtain ⟨x1, x2⟩ := ix_mem hm
        rw [if_neg (by rw [i_le_of (by omega) (by omega)]; omega), i_inc]
        refine ih (Int32.ofNat q.length, Int32.ofNat s, Int32.ofNat (c + 1), M6) ⟨q, c + 1, M6, rfl, ⟨⟨e1, e2, e3⟩, e4, hq6, fun i d hi hd h => ?_, fun i hi h => hhas6 i hi (by omega), e8, e9.tr hfrA⟩, hs, by omega⟩ (by show 4 - (Int32.ofNat (c + 1)).toInt.toNat < 4 - (Int32.ofNat c).toInt.toNat; rw [i_of (by omega), i_of (by omega)]; omega)
        rw [hdn6 i d hd]
        by_cases hh : i = s ∧ d = c
        · rw [if_pos hh, hh.1, hh.2, hu]
          exact ⟨hm, rfl⟩
        · rw [if_neg hh]
          exact e6 i d hi hd (by omega)
      · have hx := ix_not hm
        rw [hx, if_pos (Int32.le_refl _)]
        by_cases h150 : q.length = 150
        · rw [if_neg (by rw [h150]; decide)]
          refine ok_some (Or.inl ⟨rfl, Or.inr ⟨DS c u :: q, List.nodup_cons.mpr ⟨hm, e1⟩, by rw [List.length_cons]; omega, fun v hv => ?_⟩, e9.tr hfrA⟩)
          rcases List.mem_cons.mp hv with rfl | hv
          · exact hRT
          · exact (e4 v hv).1
        · rw [if_pos (by rw [show (150 : Int32) = Int32.ofNat 150 from rfl, i_eq_of (by omega) (by omega)]; exact h150)]
          have h := r_explore153 (M := M6) (k51 := k51) (k59 := k) (n := q.length) (l3 := Int32.ofNat s) (l4 := Int32.ofNat c) (DS c u) (by rw [hl6]; omega) (by rw [hl6]; omega) (by omega) hT6 hbig (DS c u) [] FU rfl (by unfold FU; omega)
          rw [wr_nil, i_inc] at h
          refine ok_eq h ?_
          have hql : (q ++ [DS c u]).length = q.length + 1 := by rw [List.length_append, List.length_singleton]
          have hfr7 : Fr [108, 109] [] M6 (sA (wr M6 108 (300 * q.length) (DS c u)) 109 q.length (Int32.ofNat (DS c u).length)) := (Fr.wr (by decide)).tr (Fr.stA (by decide))
          have hlast : (q ++ [DS c u]).getD q.length [] = DS c u := by simp
          refine ih (Int32.ofNat (q.length + 1), Int32.ofNat s, Int32.ofNat (c + 1), sA (wr M6 108 (300 * q.length) (DS c u)) 109 q.length (Int32.ofNat (DS c u).length)) ⟨q ++ [DS c u], c + 1, _, by rw [hql], ⟨⟨?_, ?_, by omega⟩, fun v hv => ?_, ?_, fun i d hi hd h => ?_, fun i hi h => ?_, fun i hi0 hi => ?_, (e9.tr hfrA).tr (hfr7.mono (by decide) (by decide))⟩, by omega, by omega⟩ (by show 4 - (Int32.ofNat (c + 1)).toInt.toNat < 4 - (Int32.ofNat c).toInt.toNat; rw [i_of (by omega), i_of (by omega)]; omega)
          · rw [List.nodup_append]
            refine ⟨e1, (by simp), fun a ha b hb => ?_⟩
            rw [List.mem_singleton.mp hb]
            intro e
            rw [e] at ha
            exact hm ha
          · rw [List.getElem?_append_left (by omega)]
            exact e2
          · rcases List.mem_append.mp hv with h | h
            · exact e4 v h
            · rw [List.mem_singleton.mp h]
              exact ⟨hRT, wf_DS u u2, pr_DS u u2 u3, hbig⟩
          · intro i v hv
            obtain ⟨hi, hvv⟩ := getD_of hv
            rw [hql] at hi
            by_cases hin : i < q.length
            · rw [getD_app_l hin] at hvv
              obtain ⟨p1, p2⟩ := hq6 i v (by rw [← hvv]; exact getD_some hin)
              have hvl := (e4 v (by rw [← hvv]; exact getD_mem hin)).2.2.2
              refine ⟨(At_wr_dis (by omega) p1).sA_ne (by decide), ?_⟩
              rw [gA_sA, if_neg (by omega), gA_wr, if_neg (by omega)]
              exact p2
            · have hi2 : i = q.length := by omega
              subst hi2
              rw [hlast] at hvv
              subst hvv
              refine ⟨(At_wr (by rw [hl6]; omega)).sA_ne (by decide), ?_⟩
              rw [gA_sA, if_pos ⟨rfl, rfl⟩]
          · rw [hql] at hi
            have hin : i < q.length := by omega
            rw [getD_app_l hin, hfr7.ga (by decide), hdn6 i d hd]
            by_cases hh : i = s ∧ d = c
            · rw [if_pos hh, hh.1, hh.2, hu]
              refine ⟨List.mem_append_right _ (List.mem_singleton.mpr rfl), ?_⟩
              rw [ix_new hm, hx]
            · rw [if_neg hh]
              obtain ⟨p1, p2⟩ := e6 i d hin hd (by omega)
              exact ⟨List.mem_append_left _ p1, by rw [ix_app p1]; exact p2⟩
          · rw [hql] at hi
            have hin : i < q.length := by omega
            rw [getD_app_l hin, hfr7.ga (by decide)]
            exact hhas6 i hin (by omega)
          · rw [hql] at hi
            by_cases hin : i < q.length
            · obtain ⟨j, hj, d, hd, he⟩ := e8 i hi0 hin
              exact ⟨j, hj, d, hd, by rw [getD_app_l (by omega), getD_app_l hin]; exact he⟩
            · have hi2 : i = q.length := by omega
              subst hi2
              exact ⟨s, hs, c, hc4, by rw [getD_app_l hs, hlast, hu]⟩
    · rw [if_neg (by rw [i_le_of (by omega) (by omega)]; exact hbig)]
      exact ok_some (Or.inl ⟨rfl, Or.inl ⟨DS c u, hRT, by omega⟩, e9.tr hfr4⟩)
theorem r_explore51 {t : List Nat} {M0 : MS} (hL0 : RLx (gL M0)) (q : List (List Nat)) (M : MS) (hE : EI t M0 q 0 0 M) : Ok (m_Mo_explore_51 (Int32.ofNat q.length, 0, M)) (EQ t M0) := by
  unfold m_Mo_explore_51
  refine ok_fx (inv := fun i => ∃ q s M, i = (Int32.ofNat q.length, Int32.ofNat s, M) ∧ EI t M0 q s 0 M ∧ s ≤ q.length) (μ := fun i => 151 - i.2.1.toInt.toNat) ?_ _ ⟨q, 0, M, rfl, hE, by omega⟩ (by unfold FU; omega)
  intro k i hi ih
  obtain ⟨q, s, M, rfl, hE, hs⟩ := hi
  have hE' := hE
  obtain ⟨⟨e1, e2, e3⟩, e4, e5, e6, e7, e8, e9⟩ := hE'
  show Ok (m_Mo_explore_51b k (Int32.ofNat q.length) (Int32.ofNat s) M) _
  unfold m_Mo_explore_51b
  by_cases h : s = q.length
  · rw [if_pos (by rw [h]; exact Int32.le_refl _)]
    refine ok_some (Or.inr ⟨q, rfl, ⟨e1, e3, e2, fun u hu => (e4 u hu).2, fun u hu c hc => ?_, e8⟩, fun i hi => ⟨e7 i hi (by omega), fun c hc => (e6 i c hi hc (by omega)).2⟩, e9⟩)
    obtain ⟨x1, x2⟩ := ix_mem hu
    have := (e6 (ix u q) c x1 hc (by omega)).1
    rw [x2] at this
    exact this
  · rw [if_neg (by rw [i_le_of (by omega) (by omega)]; omega)]
    refine r_explore59 hL0 (fun q2 M2 hE2 hs2 => ?_) q M hE (by omega)
    have hq2 := hE2.1.2.2
    exact ih (Int32.ofNat q2.length, Int32.ofNat (s + 1), M2) ⟨q2, s + 1, M2, rfl, hE2, by omega⟩ (by show 151 - (Int32.ofNat (s + 1)).toInt.toNat < 151 - (Int32.ofNat s).toInt.toNat; rw [i_of (by omega), i_of (by omega)]; omega)
theorem r_explore16 {M : MS} {a : Nat} {A : List Nat} (ha : a < 16) (h8 : gL M 98 = 1600) (h9 : gL M 99 = 16) (hw : gL M 108 = 45000) (hA : At M 98 (100 * a) A) (hs : gA M 99 a = Int32.ofNat A.length) (hl : A.length ≤ 100) :
    ∀ (v u : List Nat) (F : Nat), A = u ++ v → v.length < F → fx (fun (k : Int32 × Int32 × Int32 × MS → Option (MS × Int32)) (i : Int32 × Int32 × Int32 × MS) => m_Mo_explore_16b k i.1 i.2.1 i.2.2.1 i.2.2.2) F (Int32.ofNat a, 1, Int32.ofNat u.length, wr M 108 0 u) = m_Mo_explore_51 (1, 0, wr M 108 0 A) := by
  intro v
  induction v with
  | nil =>
    intro u F e hF
    rw [List.append_nil] at e
    subst e
    cases F with
    | zero => simp at hF
    | succ F =>
      show m_Mo_explore_16b _ (Int32.ofNat a) 1 (Int32.ofNat A.length) (wr M 108 0 A) = _
      unfold m_Mo_explore_16b
      rw [ld_of (by rw [gL_wr]; omega) (by omega), gA_wr, if_neg (by omega), hs]
      simp only [Option.bind_some]
      rw [if_pos (Int32.le_refl _)]
  | cons x v ih =>
    intro u F e hF
    have hlen : A.length = u.length + v.length + 1 := by rw [e, List.length_append, List.length_cons]; omega
    rw [List.length_cons] at hF
    cases F with
    | zero => omega
    | succ F =>
      show m_Mo_explore_16b _ (Int32.ofNat a) 1 (Int32.ofNat u.length) (wr M 108 0 u) = _
      have hA2 := hA
      rw [e] at hA2
      obtain ⟨g1, g2⟩ := hA2.get
      unfold m_Mo_explore_16b
      rw [ld_of (by rw [gL_wr]; omega) (by omega), gA_wr, if_neg (by omega), hs]
      simp only [Option.bind_some]
      rw [if_neg (by rw [i_le_of (by omega) (by omega)]; omega), show (100 : Int32) = Int32.ofNat 100 from rfl, i_mul_of, i_add_of, ld_of (by rw [gL_wr]; omega) (by omega), gA_wr, if_neg (by omega), g1]
      simp only [Option.bind_some]
      rw [st_of (by rw [gL_wr]; omega) (by omega)]
      simp only [Option.bind_some]
      have hsn := wr_snoc (M := M) (b := 108) (j := 0) (x := x) (t := u)
      rw [Nat.zero_add] at hsn
      rw [hsn, i_inc]
      have := ih (u ++ [x]) F (by rw [e, List.append_assoc]; rfl) (by omega)
      rw [List.length_append] at this
      exact this
/-- explore: all that the slot's term leads to, or that it is too large -/
theorem r_explore {S : Nat → List Nat} {W : Option (List Nat)} {M : MS} {a : Nat} (hI : RI S W M) (ha : a < 16) : Ok (m_Mo_explore (Int32.ofNat a) M) (EQ (S a) M) := by
  obtain ⟨hL, hSl, hWt⟩ := id hI
  obtain ⟨a1, a2, a3⟩ := hSl a ha
  have al := a3.2.2
  obtain ⟨hRL, ⟨l8, l9⟩, ⟨m8, m9, -⟩, -⟩ := id hL
  unfold m_Mo_explore
  rw [ld_of (by omega) (by omega), a2]
  simp only [Option.bind_some]
  rw [show stA M 109 (0 : Int32) (Int32.ofNat (S a).length) = some (sA M 109 0 (Int32.ofNat (S a).length)) from st_of (i := 0) (by omega) (by omega)]
  simp only [Option.bind_some]
  have hfr : Fr [109] [] M (sA M 109 0 (Int32.ofNat (S a).length)) := Fr.stA (by decide)
  have h16 := r_explore16 (M := sA M 109 0 (Int32.ofNat (S a).length)) (A := S a) ha l8 l9 m8 (a1.fr hfr (by decide)) (by rw [hfr.ga (by decide)]; exact a2) al (S a) [] FU rfl (by unfold FU; omega)
  rw [wr_nil] at h16
  refine ok_eq h16 ?_
  have hfr2 : Fr RE FD M (wr (sA M 109 0 (Int32.ofNat (S a).length)) 108 0 (S a)) := (Fr.stA (by decide)).tr (Fr.wr (by decide))
  refine r_explore51 hL [S a] _ ⟨⟨(by simp), rfl, by simp⟩, fun u hu => ?_, fun i u hu => ?_, fun i d hi hd h => by omega, fun i hi h => by omega, fun i h0 hi => by simp at hi; omega, hfr2⟩
  · rw [List.mem_singleton.mp hu]
    exact ⟨Rc.rf _, a3.1, a3.2.1, by omega⟩
  · have hi := (List.getElem?_eq_some_iff.mp hu).1
    simp only [List.length_singleton] at hi
    have : i = 0 := by omega
    subst this
    simp only [List.getElem?_cons_zero, Option.some.injEq] at hu
    subst hu
    refine ⟨At_wr (by show _ ≤ gL M 108; omega), ?_⟩
    rw [gA_wr, if_neg (by omega), gA_sA, if_pos ⟨rfl, rfl⟩]
