/-! STEP 2: the reference's turn, derive, similar, look -/
theorem r_turn_bad1 {S : Nat → List Nat} {W : Option (List Nat)} {M : MS} {a b d : Int32} (hI : RI S W M) (h : (slB a && slB b) = false) : RA S W M (m_Mo_turn a b d M) 0 1 := by
  have e : m_Mo_turn a b d M = some (sI M 97 0 1, 0) := by
    cases h1 : slB a
    · simp only [m_Mo_turn, m_Mo_turn_18, m_Mo_turn_19, m_Mo_turn_32, m_Mo_turn_50, m_Mo_turn_51, r_isSlot, cal_same, h1, b01_t, b01_f, i10, not_true_eq_false, if_true, if_false, r_fail1, cal_sI]
    · cases h2 : slB b
      · simp only [m_Mo_turn, m_Mo_turn_18, m_Mo_turn_19, m_Mo_turn_32, m_Mo_turn_50, m_Mo_turn_51, r_isSlot, cal_same, h1, h2, b01_t, b01_f, i10, not_true_eq_false, if_true, if_false, r_fail1, cal_sI]
      · rw [h1, h2] at h
        cases h
  rw [e]
  exact RA.fail hI _ _
theorem r_turn_bad2 {S : Nat → List Nat} {W : Option (List Nat)} {M : MS} {a b d : Int32} (hI : RI S W M) (h1 : slB a = true) (h2 : slB b = true) (hd : d.toInt < 0 ∨ 1 < d.toInt) : RA S W M (m_Mo_turn a b d M) 0 2 := by
  have e : m_Mo_turn a b d M = some (sI M 97 0 2, 0) := by
    by_cases h4 : d < 0
    · simp only [m_Mo_turn, m_Mo_turn_19, m_Mo_turn_32, m_Mo_turn_46, m_Mo_turn_51, r_isSlot, cal_same, h1, h2, h4, b01_t, i10, not_false_eq_true, if_true, if_false, r_fail2, cal_sI]
    · have h5 : ¬ d ≤ 1 := by
        rw [i_lt, i_0] at h4
        rw [i_le, i_1]
        omega
      simp only [m_Mo_turn, m_Mo_turn_19, m_Mo_turn_32, m_Mo_turn_46, m_Mo_turn_51, r_isSlot, cal_same, h1, h2, h4, h5, b01_t, i10, not_false_eq_true, if_true, if_false, r_fail2, cal_sI]
  rw [e]
  exact RA.fail hI _ _
theorem r_derive_bad1 {S : Nat → List Nat} {W : Option (List Nat)} {M : MS} {a b d : Int32} (hI : RI S W M) (h : (slB a && slB b) = false) : RA S W M (m_Mo_derive a b d M) 0 1 := by
  have e : m_Mo_derive a b d M = some (sI M 97 0 1, 0) := by
    cases h1 : slB a
    · simp only [m_Mo_derive, m_Mo_derive_18, m_Mo_derive_19, m_Mo_derive_32, m_Mo_derive_50, m_Mo_derive_51, r_isSlot, cal_same, h1, b01_t, b01_f, i10, not_true_eq_false, if_true, if_false, r_fail1, cal_sI]
    · cases h2 : slB b
      · simp only [m_Mo_derive, m_Mo_derive_18, m_Mo_derive_19, m_Mo_derive_32, m_Mo_derive_50, m_Mo_derive_51, r_isSlot, cal_same, h1, h2, b01_t, b01_f, i10, not_true_eq_false, if_true, if_false, r_fail1, cal_sI]
      · rw [h1, h2] at h
        cases h
  rw [e]
  exact RA.fail hI _ _
theorem i_3 : (3 : Int32).toInt = 3 := rfl
theorem r_derive_bad2 {S : Nat → List Nat} {W : Option (List Nat)} {M : MS} {a b d : Int32} (hI : RI S W M) (h1 : slB a = true) (h2 : slB b = true) (hd : d.toInt < 0 ∨ 3 < d.toInt) : RA S W M (m_Mo_derive a b d M) 0 2 := by
  have e : m_Mo_derive a b d M = some (sI M 97 0 2, 0) := by
    by_cases h4 : d < 0
    · simp only [m_Mo_derive, m_Mo_derive_19, m_Mo_derive_32, m_Mo_derive_46, m_Mo_derive_51, r_isSlot, cal_same, h1, h2, h4, b01_t, i10, not_false_eq_true, if_true, if_false, r_fail2, cal_sI]
    · have h5 : ¬ d ≤ 3 := by
        rw [i_lt, i_0] at h4
        rw [i_le, i_3]
        omega
      simp only [m_Mo_derive, m_Mo_derive_19, m_Mo_derive_32, m_Mo_derive_46, m_Mo_derive_51, r_isSlot, cal_same, h1, h2, h4, h5, b01_t, i10, not_false_eq_true, if_true, if_false, r_fail2, cal_sI]
  rw [e]
  exact RA.fail hI _ _
theorem r_turn70 {M : MS} {l1 l3 : Int32} {a : Nat} {A : List Nat} (ha : a < 16) (h8 : gL M 98 = 1600) (hw : gL M 100 = 130000) (hA : At M 98 (100 * a) A) (hl : A.length ≤ 100) :
    ∀ (v u : List Nat) (F : Nat), A = u ++ v → v.length < F → fx (fun (k : Int32 × Int32 × Int32 × Int32 × Int32 × MS → Option (MS × Int32)) (i : Int32 × Int32 × Int32 × Int32 × Int32 × MS) => m_Mo_turn_70b k i.1 i.2.1 i.2.2.1 i.2.2.2.1 i.2.2.2.2.1 i.2.2.2.2.2) F (l1, Int32.ofNat a, l3, Int32.ofNat A.length, Int32.ofNat u.length, wr M 100 0 u) = m_Mo_turn_102 l1 l3 (Int32.ofNat A.length) (wr M 100 0 A) := by
  intro v
  induction v with
  | nil =>
    intro u F e hF
    rw [List.append_nil] at e
    subst e
    cases F with
    | zero => simp at hF
    | succ F =>
      show m_Mo_turn_70b _ l1 (Int32.ofNat a) l3 (Int32.ofNat A.length) (Int32.ofNat A.length) (wr M 100 0 A) = _
      unfold m_Mo_turn_70b
      rw [if_pos (Int32.le_refl _)]
  | cons x v ih =>
    intro u F e hF
    have hlen : A.length = u.length + v.length + 1 := by rw [e, List.length_append, List.length_cons]; omega
    rw [List.length_cons] at hF
    cases F with
    | zero => omega
    | succ F =>
      show m_Mo_turn_70b _ l1 (Int32.ofNat a) l3 (Int32.ofNat A.length) (Int32.ofNat u.length) (wr M 100 0 u) = _
      have hA2 := hA
      rw [e] at hA2
      obtain ⟨g1, g2⟩ := hA2.get
      unfold m_Mo_turn_70b
      rw [if_neg (by rw [i_le_of (by omega) (by omega)]; omega), show (100 : Int32) = Int32.ofNat 100 from rfl, i_mul_of, i_add_of, ld_of (by rw [gL_wr]; omega) (by omega), gA_wr, if_neg (by omega), g1]
      simp only [Option.bind_some]
      rw [st_of (by rw [gL_wr]; omega) (by omega)]
      simp only [Option.bind_some]
      have hsn := wr_snoc (M := M) (b := 100) (j := 0) (x := x) (t := u)
      rw [Nat.zero_add] at hsn
      rw [hsn, i_inc]
      have := ih (u ++ [x]) F (by rw [e, List.append_assoc]; rfl) (by omega)
      rw [List.length_append] at this
      exact this
/-- the copy of star's loop, behind a first part of j items -/
theorem r_turn183 {M : MS} {l1 : Int32} {st : Bool} {pre A : List Nat} (hw : gL M 100 = 130000) (ht : gL M 101 = 130000) (hA : At M 100 0 A) (hl : A.length ≤ 100) (hp : pre.length = if st = true then 0 else 1) :
    ∀ (v u : List Nat) (F : Nat), A = u ++ v → v.length < F → fx (fun (k : Int32 × Int32 × Int32 × Int32 × Int32 × MS → Option (MS × Int32)) (i : Int32 × Int32 × Int32 × Int32 × Int32 × MS) => m_Mo_turn_183b k i.1 i.2.1 i.2.2.1 i.2.2.2.1 i.2.2.2.2.1 i.2.2.2.2.2) F (l1, Int32.ofNat A.length, 0, b01 st, Int32.ofNat u.length, wr M 101 0 (pre ++ u)) = m_Mo_turn_227 l1 (Int32.ofNat A.length) 0 (b01 st) (wr M 101 0 (pre ++ A)) := by
  intro v
  induction v with
  | nil =>
    intro u F e hF
    rw [List.append_nil] at e
    subst e
    cases F with
    | zero => simp at hF
    | succ F =>
      show m_Mo_turn_183b _ l1 (Int32.ofNat A.length) 0 (b01 st) (Int32.ofNat A.length) (wr M 101 0 (pre ++ A)) = _
      unfold m_Mo_turn_183b
      rw [if_pos (Int32.le_refl _)]
  | cons x v ih =>
    intro u F e hF
    have hlen : A.length = u.length + v.length + 1 := by rw [e, List.length_append, List.length_cons]; omega
    rw [List.length_cons] at hF
    cases F with
    | zero => omega
    | succ F =>
      show m_Mo_turn_183b _ l1 (Int32.ofNat A.length) 0 (b01 st) (Int32.ofNat u.length) (wr M 101 0 (pre ++ u)) = _
      have hA2 := hA
      rw [e] at hA2
      obtain ⟨g1, g2⟩ := hA2.get
      rw [Nat.zero_add] at g1 g2
      have hsn := wr_snoc (M := M) (b := 101) (j := 0) (x := x) (t := pre ++ u)
      rw [Nat.zero_add, List.length_append] at hsn
      have := ih (u ++ [x]) F (by rw [e, List.append_assoc]; rfl) (by omega)
      rw [List.length_append, ← List.append_assoc] at this
      refine Eq.trans ?_ this
      unfold m_Mo_turn_183b m_Mo_turn_213
      rw [if_neg (by rw [i_le_of (by omega) (by omega)]; omega), if_neg (by decide)]
      cases st with
      | true =>
        simp only [if_true] at hp
        rw [if_neg (by decide), ld_of (by rw [gL_wr]; omega) (by omega), gA_wr, if_neg (by omega), g1]
        simp only [Option.bind_some]
        rw [hp, Nat.zero_add] at hsn
        rw [st_of (by rw [gL_wr]; omega) (by omega)]
        simp only [Option.bind_some]
        rw [hsn, i_inc]
        rfl
      | false =>
        simp only [Bool.false_eq_true, if_false] at hp
        rw [if_pos (by decide), ld_of (by rw [gL_wr]; omega) (by omega), gA_wr, if_neg (by omega), g1]
        simp only [Option.bind_some]
        rw [hp, Nat.add_comm] at hsn
        rw [i_inc, st_of (by rw [gL_wr]; omega) (by omega)]
        simp only [Option.bind_some]
        rw [hsn]
        rfl
def turnT (how : Nat) (a : List Nat) : List Nat := if how = 0 then notS a else starS a
theorem starS_len (a : List Nat) (h : 1 ≤ a.length) : (starS a).length ≤ a.length + 1 := by
  unfold starS
  split
  · simp
  · split
    · omega
    · rw [List.length_cons]; exact Nat.le_refl _
theorem r_turn {S : Nat → List Nat} {W : Option (List Nat)} {M : MS} {s a how : Nat} (hI : RI S W M) (hs : s < 16) (ha : a < 16) (hh : how ≤ 1) :
    RA (kS S s (turnT how (S a))) W M (m_Mo_turn (Int32.ofNat s) (Int32.ofNat a) (Int32.ofNat how) M) (kAns (turnT how (S a))) 0 := by
  have n1 : ¬ Int32.ofNat how < 0 := by rw [i_lt, i_of (by omega), i_0]; omega
  have n2 : Int32.ofNat how ≤ 1 := by rw [i_le, i_of (by omega), i_1]; omega
  have e : m_Mo_turn (Int32.ofNat s) (Int32.ofNat a) (Int32.ofNat how) M = m_Mo_turn_51 (Int32.ofNat s) (Int32.ofNat a) (Int32.ofNat how) 0 0 M := by
    simp only [m_Mo_turn, m_Mo_turn_19, m_Mo_turn_32, m_Mo_turn_50, r_isSlot, cal_same, slB_nat hs, slB_nat ha, n1, n2, b01_t, i10, not_false_eq_true, if_true, if_false]
  rw [e]
  unfold m_Mo_turn_51
  rw [r_fail0, cal_sI, if_pos (by show (0 : Int32) = 0; decide)]
  have hI0 := hI.thr 0
  have hth : gI (sI M 97 0 0) 97 0 = 0 := by rw [gI_sI, if_pos ⟨rfl, rfl⟩]
  have hF0 : FrR M (sI M 97 0 0) := FrR.thr 0
  generalize sI M 97 0 0 = M1 at hI0 hth hF0
  obtain ⟨hL, hSl, hWt⟩ := id hI0
  obtain ⟨a1, a2, a3⟩ := hSl a ha
  have al := a3.2.2
  have al1 : 1 ≤ (S a).length := List.length_pos_iff.mpr (wf_ne a3.1)
  obtain ⟨hRL, ⟨l8, l9⟩, -, -⟩ := hL
  obtain ⟨l0, l01, -, -, -⟩ := id hRL
  rw [ld_of (by show _ < gL M1 99; omega) (by omega)]
  simp only [Option.bind_some]
  rw [a2]
  have h70 := r_turn70 (M := M1) (l1 := Int32.ofNat s) (l3 := Int32.ofNat how) ha l8 l0 a1 al (S a) [] FU rfl (by unfold FU; omega)
  rw [wr_nil] at h70
  have h70' : m_Mo_turn_70 (Int32.ofNat s, Int32.ofNat a, Int32.ofNat how, Int32.ofNat (S a).length, 0, M1) = _ := h70
  rw [h70']
  have hfr : Fr [100, 101] [] M1 (wr M1 100 0 (S a)) := Fr.wr (by decide)
  have hA : At (wr M1 100 0 (S a)) 100 0 (S a) := At_wr (by omega)
  have hI2 := hI0.fr hfr (by decide) (by decide) (by decide) (by decide)
  have hF2 := hF0.tr (hfr.toR (by decide) (by decide))
  have hth2 : gI (wr M1 100 0 (S a)) 97 0 = 0 := hth
  have hw2 : gL (wr M1 100 0 (S a)) 100 = 130000 := l0
  have ht2 : gL (wr M1 100 0 (S a)) 101 = 130000 := l01
  generalize wr M1 100 0 (S a) = M2 at hA hI2 hF2 hth2 hw2 ht2
  unfold m_Mo_turn_102 turnT
  by_cases h0 : how = 0
  · rw [if_pos h0, if_neg (show ¬ ¬ Int32.ofNat how = 0 by rw [h0]; decide)]
    have hr := r_not (M := M2) a3.1 a3.sm hA (by omega) (by omega)
    have hr' : m_Mo_not (0 : Int32) (Int32.ofNat (S a).length) M2 = _ := hr
    rw [hr', cal_wr]
    have hnl := notS_len (S a)
    have hfr3 : Fr [101] [] M2 (wr M2 101 0 (notS (S a))) := Fr.wr (by decide)
    exact RA.keep (M := wr M2 101 0 (notS (S a))) (hF2.tr (hfr3.toR (by decide) (by decide))) hth2 (hI2.fr hfr3 (by decide) (by decide) (by decide) (by decide)) hs (wf_notS a3.1) (pr_notS a3.2.1) (fun _ => At_wr0 ht2 (by omega)) (by omega)
  · rw [if_neg h0, if_pos (show ¬ Int32.ofNat how = 0 by rw [i_eq, i_of (by omega), i_0]; omega)]
    obtain ⟨x, r, hxr⟩ : ∃ x r, S a = x :: r := by
      cases hq : S a with
      | nil => rw [hq] at al1; simp at al1
      | cons x r => exact ⟨x, r, rfl⟩
    have hx : x < 1048576 := a3.sm x (by rw [hxr]; exact List.mem_cons_self)
    have hpx : prI x := a3.2.1 x (by rw [hxr]; exact List.mem_cons_self)
    have hg : gA M2 100 0 = Int32.ofNat x := by
      rw [hxr] at hA
      exact hA.cons.1
    have hwf := a3.1
    rw [hxr] at hwf
    have hhd : hd (S a) = x := by rw [hxr]; rfl
    have hld : ldA M2 100 (0 : Int32) = some (Int32.ofNat x) := by
      rw [show (0 : Int32) = Int32.ofNat 0 from rfl, ld_of (by omega) (by omega), hg]
    have hx0 : S a = [0] ↔ x = 0 := by
      constructor
      · intro h; rw [h] at hhd; exact hhd.symm
      · intro h; subst h; rw [hxr, wf_hd0 hwf (by decide)]
    have hx1 : S a = [1] ↔ x = 1 := by
      constructor
      · intro h; rw [h] at hhd; exact hhd.symm
      · intro h; subst h; rw [hxr, wf_hd0 hwf (by decide)]
    rw [hld]
    simp only [Option.bind_some]
    have plain : S a = [0] ∨ S a = [1] → RA (kS S s (starS (S a))) W M (m_Mo_turn_138 (Int32.ofNat s) (Int32.ofNat (S a).length) M2) (kAns (starS (S a))) 0 := by
      intro hq
      have hst : starS (S a) = [1] := by unfold starS; rw [if_pos hq]
      have hx7 : ¬ x = 7 := by
        rcases hq with hq | hq
        · have := hx0.mp hq; omega
        · have := hx1.mp hq; omega
      rw [hst]
      unfold m_Mo_turn_138 m_Mo_turn_143 m_Mo_turn_161 m_Mo_turn_179 m_Mo_turn_183
      rw [hld]
      simp only [Option.bind_some]
      rw [if_pos (by rw [show (7 : Int32) = Int32.ofNat 7 from rfl, i_eq_of (by omega) (by omega)]; exact hx7), if_neg (by decide), show stA M2 101 (0 : Int32) 1 = some (sA M2 101 0 (Int32.ofNat 1)) from st_of (i := 0) (x := Int32.ofNat 1) (by omega) (by omega)]
      simp only [Option.bind_some]
      have hfr3 : Fr [101] [] M2 (sA M2 101 0 (Int32.ofNat 1)) := Fr.stA (by decide)
      have hk := RA.keep (M := sA M2 101 0 (Int32.ofNat 1)) (M0 := M) (t := [1]) (hF2.tr (hfr3.toR (by decide) (by decide))) hth2 (hI2.fr hfr3 (by decide) (by decide) (by decide) (by decide)) hs wf_1 pr_1 (fun _ => At_one (by omega)) (by simp)
      show RA _ _ _ (m_Mo_turn_183b _ (Int32.ofNat s) (Int32.ofNat (S a).length) 1 0 (0 : Int32) (sA M2 101 0 (Int32.ofNat 1))) _ _
      unfold m_Mo_turn_183b m_Mo_turn_227 m_Mo_turn_252
      rw [if_neg (by rw [i_le, i_of (by omega), i_0]; omega), if_pos (by decide), if_neg (by decide)]
      exact hk
    by_cases c0 : x = 0
    · rw [if_pos (by rw [c0]; decide)]
      exact plain (Or.inl (hx0.mpr c0))
    · rw [if_neg (by rw [i_eq, i_of (by omega), i_0]; omega)]
      by_cases c1 : x = 1
      · rw [if_neg (by rw [c1]; decide)]
        exact plain (Or.inr (hx1.mpr c1))
      · rw [if_pos (by rw [show (1 : Int32) = Int32.ofNat 1 from rfl, i_eq_of (by omega) (by omega)]; exact c1)]
        have hnp : ¬ (S a = [0] ∨ S a = [1]) := fun q => by
          rcases q with q | q
          · exact c0 (hx0.mp q)
          · exact c1 (hx1.mp q)
        unfold m_Mo_turn_143 m_Mo_turn_161 m_Mo_turn_179 m_Mo_turn_183
        rw [hld]
        simp only [Option.bind_some]
        have hst0 : stA M2 101 (0 : Int32) 7 = some (sA M2 101 0 (Int32.ofNat 7)) := st_of (i := 0) (x := Int32.ofNat 7) (by omega) (by omega)
        have hfr3 : Fr [101] [] M2 (sA M2 101 0 (Int32.ofNat 7)) := Fr.stA (by decide)
        have hA3 : At (sA M2 101 0 (Int32.ofNat 7)) 100 0 (S a) := hA.fr hfr3 (by decide)
        by_cases c7 : x = 7
        · have hstar : starS (S a) = S a := by unfold starS; rw [if_neg hnp, if_pos (by rw [hhd]; exact c7)]
          rw [if_neg (by rw [c7]; decide), if_pos (by decide), hst0]
          simp only [Option.bind_some]
          have h := r_turn183 (M := sA M2 101 0 (Int32.ofNat 7)) (l1 := Int32.ofNat s) (st := true) (pre := []) hw2 ht2 hA3 al rfl (S a) [] FU rfl (by unfold FU; omega)
          rw [List.append_nil, wr_nil, List.nil_append] at h
          have hfr4 : Fr [101] [] M2 (wr (sA M2 101 0 (Int32.ofNat 7)) 101 0 (S a)) := hfr3.tr (Fr.wr (by decide))
          have hk := RA.keep (M := wr (sA M2 101 0 (Int32.ofNat 7)) 101 0 (S a)) (M0 := M) (t := S a) (hF2.tr (hfr4.toR (by decide) (by decide))) hth2 (hI2.fr hfr4 (by decide) (by decide) (by decide) (by decide)) hs a3.1 a3.2.1 (fun _ => At_wr0 ht2 (by omega)) (by omega)
          have h' := h
          unfold m_Mo_turn_227 m_Mo_turn_252 at h'
          rw [if_pos rfl, if_neg (by decide)] at h'
          rw [hstar]
          rw [← h'] at hk
          exact hk
        · have hstar : starS (S a) = 7 :: S a := by unfold starS; rw [if_neg hnp, if_neg (by rw [hhd]; exact c7)]
          rw [if_pos (by rw [show (7 : Int32) = Int32.ofNat 7 from rfl, i_eq_of (by omega) (by omega)]; exact c7), if_pos (by decide), hst0]
          simp only [Option.bind_some]
          have h := r_turn183 (M := M2) (l1 := Int32.ofNat s) (st := false) (pre := [7]) hw2 ht2 hA al rfl (S a) [] FU rfl (by unfold FU; omega)
          have e0 := wr_snoc (M := M2) (b := 101) (j := 0) (x := 7) (t := [])
          rw [wr_nil] at e0
          have e0' : sA M2 101 0 (Int32.ofNat 7) = wr M2 101 0 [7] := e0
          rw [List.append_nil, ← e0'] at h
          have hfr4 : Fr [101] [] M2 (wr M2 101 0 (7 :: S a)) := Fr.wr (by decide)
          have hk := RA.keep (M := wr M2 101 0 (7 :: S a)) (M0 := M) (s := s) (t := 7 :: S a) (hF2.tr (hfr4.toR (by decide) (by decide))) hth2 (hI2.fr hfr4 (by decide) (by decide) (by decide) (by decide)) hs (wf_un rfl a3.1) (pr_cons prI_7 a3.2.1) (fun _ => At_wr0 ht2 (by rw [List.length_cons]; omega)) (by rw [List.length_cons]; omega)
          have h' := h
          unfold m_Mo_turn_227 m_Mo_turn_252 at h'
          rw [if_pos rfl, if_pos (by decide), i_inc] at h'
          rw [hstar]
          rw [List.length_cons] at hk
          have h'' : _ = cal cM (wr M2 101 0 (7 :: S a)) (m_Mo_keep (Int32.ofNat s) (Int32.ofNat ((S a).length + 1)) (wr M2 101 0 (7 :: S a))) fun r1 => some (r1.1, r1.2) := h'
          rw [← h''] at hk
          exact hk
theorem r_derive83 {M : MS} {l1 : Int32} (T : List Nat) (hw : gL M 100 = 130000) (ht : gL M 101 = 130000) (hC : At M 100 0 T) (hl : T.length ≤ 100) :
    ∀ (v u : List Nat) (F : Nat), T = u ++ v → v.length < F → fx (fun (k : Int32 × Int32 × Int32 × MS → Option (MS × Int32)) (i : Int32 × Int32 × Int32 × MS) => m_Mo_derive_83b k i.1 i.2.1 i.2.2.1 i.2.2.2) F (l1, Int32.ofNat T.length, Int32.ofNat u.length, wr M 101 0 u) = m_Mo_derive_117 l1 (Int32.ofNat T.length) (wr M 101 0 T) := by
  intro v
  induction v with
  | nil =>
    intro u F e hF
    rw [List.append_nil] at e
    subst e
    cases F with
    | zero => simp at hF
    | succ F =>
      show m_Mo_derive_83b _ l1 (Int32.ofNat T.length) (Int32.ofNat T.length) (wr M 101 0 T) = _
      unfold m_Mo_derive_83b
      rw [if_pos (Int32.le_refl _)]
  | cons x v ih =>
    intro u F e hF
    have hlen : T.length = u.length + v.length + 1 := by rw [e, List.length_append, List.length_cons]; omega
    rw [List.length_cons] at hF
    cases F with
    | zero => omega
    | succ F =>
      show m_Mo_derive_83b _ l1 (Int32.ofNat T.length) (Int32.ofNat u.length) (wr M 101 0 u) = _
      have hC2 := hC
      rw [e] at hC2
      obtain ⟨g1, g2⟩ := hC2.get
      rw [Nat.zero_add] at g1 g2
      unfold m_Mo_derive_83b
      rw [if_neg (by rw [i_le_of (by omega) (by omega)]; omega), if_neg (by rw [show (100 : Int32) = Int32.ofNat 100 from rfl, i_lt_of (by omega) (by omega)]; omega), ld_of (by rw [gL_wr]; omega) (by omega), gA_wr, if_neg (by omega), g1]
      simp only [Option.bind_some]
      rw [st_of (by rw [gL_wr]; omega) (by omega)]
      simp only [Option.bind_some]
      have hsn := wr_snoc (M := M) (b := 101) (j := 0) (x := x) (t := u)
      rw [Nat.zero_add] at hsn
      rw [hsn, i_inc]
      have := ih (u ++ [x]) F (by rw [e, List.append_assoc]; rfl) (by omega)
      rw [List.length_append] at this
      exact this
theorem r_derive {S : Nat → List Nat} {W : Option (List Nat)} {M : MS} {s a c : Nat} (hI : RI S W M) (hs : s < 16) (ha : a < 16) (hc : c ≤ 3) :
    RA (kS S s (DS c (S a))) W M (m_Mo_derive (Int32.ofNat s) (Int32.ofNat a) (Int32.ofNat c) M) (kAns (DS c (S a))) 0 := by
  have n1 : ¬ Int32.ofNat c < 0 := by rw [i_lt, i_of (by omega), i_0]; omega
  have n2 : Int32.ofNat c ≤ 3 := by rw [i_le, i_of (by omega), i_3]; omega
  have e : m_Mo_derive (Int32.ofNat s) (Int32.ofNat a) (Int32.ofNat c) M = m_Mo_derive_51 (Int32.ofNat s) (Int32.ofNat a) (Int32.ofNat c) 0 0 M := by
    simp only [m_Mo_derive, m_Mo_derive_19, m_Mo_derive_32, m_Mo_derive_50, r_isSlot, cal_same, slB_nat hs, slB_nat ha, n1, n2, b01_t, i10, not_false_eq_true, if_true, if_false]
  rw [e]
  unfold m_Mo_derive_51
  rw [r_fail0, cal_sI, if_pos (by show (0 : Int32) = 0; decide)]
  have hI0 := hI.thr 0
  have hth : gI (sI M 97 0 0) 97 0 = 0 := by rw [gI_sI, if_pos ⟨rfl, rfl⟩]
  have hF0 : FrR M (sI M 97 0 0) := FrR.thr 0
  generalize sI M 97 0 0 = M1 at hI0 hth hF0
  obtain ⟨hL, hSl, hWt⟩ := id hI0
  obtain ⟨a1, a2, a3⟩ := hSl a ha
  have al := a3.2.2
  obtain ⟨hRL, ⟨l8, l9⟩, -, -⟩ := hL
  obtain ⟨l0, l01, -, -, -⟩ := id hRL
  rw [ld_of (by show _ < gL M1 99; omega) (by omega)]
  simp only [Option.bind_some]
  rw [a2, show (100 : Int32) = Int32.ofNat 100 from rfl, i_mul_of]
  obtain ⟨M2, d1, d2, d3, d4⟩ := r_derived (M := M1) (l1 := 98) (c := c) (Or.inl rfl) (by omega) a3.1 a3.2.1 (by omega) (by omega) hRL a1
  have hI2 := hI0.fr d4 (by decide) (by decide) (by decide) (by decide)
  have hF2 := hF0.tr (d4.toR (by decide) (by decide))
  have hth2 : gI M2 97 0 = 0 := by rw [d4.gi (by decide)]; exact hth
  have hw2 : gL M2 100 = 130000 := by rw [d4.ln]; exact l0
  have ht2 : gL M2 101 = 130000 := by rw [d4.ln]; exact l01
  have wD := wf_DS (c := c) (S a) a3.1
  have pD := pr_DS (c := c) (S a) a3.1 a3.2.1
  have hDl := d2.1
  rw [hw2] at hDl
  have hpos : 1 ≤ (DS c (S a)).length := List.length_pos_iff.mpr (wf_ne wD)
  have hgo : RA (kS S s (DS c (S a))) W M (m_Mo_derive_83 (Int32.ofNat s, Int32.ofNat (DS c (S a)).length, 0, M2)) (kAns (DS c (S a))) 0 := by
    by_cases hl : (DS c (S a)).length ≤ 100
    · have h := r_derive83 (M := M2) (l1 := Int32.ofNat s) (DS c (S a)) hw2 ht2 d2 hl (DS c (S a)) [] FU rfl (by unfold FU; omega)
      rw [wr_nil] at h
      have h' : m_Mo_derive_83 (Int32.ofNat s, Int32.ofNat (DS c (S a)).length, 0, M2) = _ := h
      rw [h']
      have hfr : Fr [101] [] M2 (wr M2 101 0 (DS c (S a))) := Fr.wr (by decide)
      exact RA.keep (M := wr M2 101 0 (DS c (S a))) (hF2.tr (hfr.toR (by decide) (by decide))) hth2 (hI2.fr hfr (by decide) (by decide) (by decide) (by decide)) hs wD pD (fun _ => At_wr0 ht2 (by omega)) (by omega)
    · show RA _ _ _ (m_Mo_derive_83b _ (Int32.ofNat s) (Int32.ofNat (DS c (S a)).length) (0 : Int32) M2) _ _
      unfold m_Mo_derive_83b
      rw [if_neg (by rw [i_le, i_of (by omega), i_0]; omega), if_pos (by rw [show (100 : Int32) = Int32.ofNat 100 from rfl, i_lt_of (by omega) (by omega)]; omega)]
      exact RA.keep (M := M2) hF2 hth2 hI2 hs wD pD (fun q => absurd q hl) (by omega)
  exact (cal_some d1 d4.le.1 d4.le.2) ▸ hgo
