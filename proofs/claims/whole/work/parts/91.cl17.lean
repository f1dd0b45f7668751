/-! STEP 2, the class: derivative -/
def dvL (F : Nat) (z : Int32 × Int32 × Int32 × MS) : Option (MS × Int32) := fx (fun (k : Int32 × Int32 × Int32 × MS → Option (MS × Int32)) (i : Int32 × Int32 × Int32 × MS) => m_Terms_derivative_17b k i.1 i.2.1 i.2.2.1 i.2.2.2) F z
theorem dvL_succ (F : Nat) (t c st : Int32) (M : MS) : dvL (F + 1) (t, c, st, M) = m_Terms_derivative_17b (dvL F) t c st M := rfl
def RNd : List Nat := 20 :: RN
def FNd : List (Nat × Nat) := (19, 1) :: FN
/-- what is known stays known -/
def KP (g : TG) (M M1 : MS) : Prop := ∀ p, p < 4 * tU g → ¬ gA M 12 p = -1 → gA M1 12 p = gA M 12 p
theorem KA.keep {g g1 : TG} {M M1 : MS} {c k : Nat} (h : KA g M c k) (hE : TE g g1) (hP : KP g M M1) (hk : k < tU g) (hc : c < 4) (hU : tU g ≤ 131072) : KA g1 M1 c k := by
  obtain ⟨d, d1, d2, d3⟩ := h
  refine ⟨d, Nat.lt_of_lt_of_le d1 hE.1, ?_, by rw [hE.tx d1, hE.tx hk]; exact d3⟩
  rw [hP _ (by omega) (by rw [d2]; exact i_nm1 (by omega))]
  exact d2
theorem KP.tr {g g1 : TG} {M M1 M2 : MS} (h : KP g M M1) (h2 : KP g1 M1 M2) (hE : tU g ≤ tU g1) : KP g M M2 := fun p hp hn => by
  have e := h p hp hn
  rw [h2 p (by omega) (by rw [e]; exact hn), e]
theorem RO.r19 {M M1 : MS} (h : RO M) (hf : FC [20] [(19, 1)] M M1) : RO M1 := by
  obtain ⟨⟨l1, r1⟩, ⟨l2, r2⟩, ⟨l3, r3⟩, r4, r5, r6, r7⟩ := h
  exact ⟨⟨l1, r1.fc hf (by decide) (by decide)⟩, ⟨l2, r2.fc hf (by decide) (by decide)⟩, ⟨l3, r3.fc hf (by decide) (by decide)⟩, by rw [hf.gl (by decide)]; exact r4, by rw [hf.gl (by decide)]; exact r5, by rw [hf.gl (by decide)]; exact r6, by rw [hf.gl (by decide)]; exact r7⟩
theorem TI.store {g : TG} {M : MS} {x c d : Nat} (h : TI g M) (hx : x < tU g) (hc : c < 4) (hd' : d < tU g) (e : ttx g d = DS c (ttx g x)) : TI g (sA M 12 (4 * x + c) (Int32.ofNat d)) := by
  have hk : ∀ a, a ≠ 12 → gA (sA M 12 (4 * x + c) (Int32.ofNat d)) a = gA M a := fun a ha => gA_sAn ha
  obtain ⟨hB, ⟨m1, m2, m3, m4, mi⟩, ⟨q1, q2⟩, hA, hT⟩ := h
  refine ⟨hB, ⟨m1, m2, m3, m4, fun i hi => ?_⟩, ⟨fun i h18 hi => ?_, fun b hb => ?_⟩, fun i c' hi hc' => ?_, fun i hi => ?_⟩
  · rw [hk 3 (by decide), hk 4 (by decide), hk 5 (by decide), hk 6 (by decide), hk 7 (by decide), hk 13 (by decide)]
    exact mi i hi
  · rw [hk 8 (by decide)]; exact q1 i h18 hi
  · obtain ⟨l, c1, c2, c3, c4⟩ := q2 b hb
    refine ⟨l, ?_, c2, c3, fun i h18 hi hbk => c4 i h18 hi (by rw [hk 8 (by decide)] at hbk; exact hbk)⟩
    rw [hk 14 (by decide)]
    exact cH_keep (fun i _ => by rw [hk 9 (by decide)]) c1
  · rw [gA_sA]
    by_cases he : i = x ∧ c' = c
    · rw [if_pos ⟨rfl, by rw [he.1, he.2]⟩, he.1, he.2]
      exact Or.inr ⟨d, hd', rfl, e⟩
    · rw [if_neg (by omega)]
      exact hA i c' hi hc'
  · rw [hk 10 (by decide)]
    exact hT i hi
/-- the derivative of the topmost is known: it leaves the pile -/
theorem c_dvA {g : TG} {M : MS} {l : List Nat} {x c st F : Nat} {t : Int32} (h : TI g M) (hW : RW M 19 20 (l ++ [x])) (hx : x < tU g) (hc : c < 4) (hst : st < 1000000) (hk : ¬ gA M 12 (4 * x + c) = -1) : ∃ M1, dvL (F + 1) (t, Int32.ofNat c, Int32.ofNat st, M) = dvL F (t, Int32.ofNat c, Int32.ofNat (st + 1), M1) ∧ RW M1 19 20 l ∧ FC [20] [(19, 1)] M M1 ∧ gL M1 20 = gL M 20 := by
  have hlt := h.2.1.lt
  obtain ⟨-, ⟨m3, m4⟩, ⟨l4, l5, l6, l7, l8, l9, l10, l11, l12, l14⟩, -, -⟩ := h.2.1
  have hwl := hW.2.1
  have hwl2 := hW.2.2.2.1
  rw [List.length_append, List.length_singleton] at hwl
  obtain ⟨M1, a1, a2, a3⟩ := c_dropLast isR19 hW
  have gx : (l ++ [x]).getD l.length 0 = x := by simp
  have hget := c_get (j := l.length) isR19 hW (by rw [List.length_append, List.length_singleton]; omega)
  rw [gx] at hget
  have hgl : gL M1 20 = gL M 20 := by
    have := a1
    unfold m_Row_dropLast at this
    rw [if_pos isR19.kd.1, hW.1, List.length_append, List.length_singleton, if_neg (by rw [i_le, i_of (by omega), i_0]; omega)] at this
    simp only [Option.bind_some, Option.some.injEq, Prod.mk.injEq, and_true] at this
    rw [← this]
    rfl
  refine ⟨M1, ?_, a2, a3, hgl⟩
  rw [dvL_succ]
  generalize dvL F = k
  unfold m_Terms_derivative_17b
  rw [if_neg (by rw [show (1000000 : Int32) = Int32.ofNat 1000000 from rfl, i_le_of (by omega) (by omega)]; omega), c_size isR19 hW, cal_same, if_neg (by show ¬ Int32.ofNat (l ++ [x]).length ≤ 0; rw [List.length_append, List.length_singleton, i_le, i_of (by omega), i_0]; omega), c_size isR19 hW, cal_same, List.length_append, List.length_singleton]
  rw [show Int32.ofNat (l.length + 1) - 1 = Int32.ofNat l.length by rw [i_pred (by omega) (by omega), Nat.add_sub_cancel], hget, cal_same]
  rw [show Int32.ofNat x * 4 = Int32.ofNat (4 * x) from by rw [Nat.mul_comm]; exact i_mul_of _ 4, i_add_of, ld_of (by show _ < gL M 12; omega) (by omega), Option.bind_some, if_neg hk, cal_some a1 a3.le.1 a3.le.2, i_inc]
/-- the topmost asks for its kids' -/
theorem c_dvB {g : TG} {M : MS} {l : List Nat} {x c st F : Nat} {t : Int32} (h : TI g M) (hG : GD M) (hW : RW M 19 20 (l ++ [x])) (hx : x < tU g) (hc : c < 4) (hst : st < 1000000) (hk : gA M 12 (4 * x + c) = -1) (hnl : (tkd g x).length ≤ 300) (hL : l.length < 10000) : ∃ M1, TI g M1 ∧ RW M1 19 20 (l ++ [x] ++ unK M c (ndK g x)) ∧ FC [20] [(19, 1)] M M1 ∧ gL M1 20 ≤ max (gL M 20) 30000 ∧ dvL (F + 1) (t, Int32.ofNat c, Int32.ofNat st, M) = (if unK M c (ndK g x) ≠ [] then dvL F (t, Int32.ofNat c, Int32.ofNat (st + 1), M1) else (cal cM M1 (m_Terms_combined (Int32.ofNat x) (Int32.ofNat c) M1) fun r6 => (stA r6.1 12 (Int32.ofNat (4 * x + c)) r6.2).bind fun M7 => cal cM M7 (m_Row_dropLast 19 M7) fun r8 => dvL F (t, Int32.ofNat c, Int32.ofNat (st + 1), r8.1))) := by
  have hlt := h.2.1.lt
  obtain ⟨-, ⟨m3, m4⟩, ⟨l4, l5, l6, l7, l8, l9, l10, l11, l12, l14⟩, -, -⟩ := h.2.1
  have hwl := hW.2.1
  have hwl2 := hW.2.2.2.1
  rw [List.length_append, List.length_singleton] at hwl
  have gx : (l ++ [x]).getD l.length 0 = x := by simp
  have hget := c_get (j := l.length) isR19 hW (by rw [List.length_append, List.length_singleton]; omega)
  rw [gx] at hget
  obtain ⟨M1, a1, a2, a3, a4, a5⟩ := c_asks (c := c) h hG hx hc hnl (by rw [List.length_append, List.length_singleton]; omega) hW
  refine ⟨M1, a2, a3, a4, a5, ?_⟩
  rw [dvL_succ]
  generalize dvL F = k
  unfold m_Terms_derivative_17b
  rw [if_neg (by rw [show (1000000 : Int32) = Int32.ofNat 1000000 from rfl, i_le_of (by omega) (by omega)]; omega), c_size isR19 hW, cal_same, if_neg (by show ¬ Int32.ofNat (l ++ [x]).length ≤ 0; rw [List.length_append, List.length_singleton, i_le, i_of (by omega), i_0]; omega), c_size isR19 hW, cal_same, List.length_append, List.length_singleton]
  rw [show Int32.ofNat (l.length + 1) - 1 = Int32.ofNat l.length by rw [i_pred (by omega) (by omega), Nat.add_sub_cancel], hget, cal_same]
  rw [show Int32.ofNat x * 4 = Int32.ofNat (4 * x) from by rw [Nat.mul_comm]; exact i_mul_of _ 4, i_add_of, ld_of (by show _ < gL M 12; omega) (by omega), Option.bind_some, if_pos hk, cal_some a1 a4.le.1 a4.le.2, i_inc]
  by_cases hu : unK M c (ndK g x) ≠ []
  · rw [if_pos hu, decide_eq_true hu, if_pos (by show ¬ b01 true = 0; decide)]
  · rw [if_neg hu, decide_eq_false hu, if_neg (by show ¬ ¬ b01 false = 0; decide)]
theorem sublist_sum {f : Nat → Nat} {a b : List Nat} (h : a.Sublist b) : (a.map f).sum ≤ (b.map f).sum := by
  induction h with
  | slnil => exact Nat.le_refl _
  | cons x _ ih => rw [List.map_cons, List.sum_cons]; omega
  | cons_cons x _ ih => rw [List.map_cons, List.map_cons, List.sum_cons, List.sum_cons]; omega
theorem ndK_sub (g : TG) (x : Nat) : (ndK g x).Sublist (tkd g x) := by
  unfold ndK
  split
  · exact List.take_sublist _ _
  · exact List.Sublist.refl _
/-- the topmost is combined out of its kids' -/
theorem c_dvC {g : TG} {M : MS} {l : List Nat} {x c st F : Nat} {t : Int32} (h : TI g M) (hr : RO M) (hG : GD M) (hW : RW M 19 20 (l ++ [x])) (hx : x < tU g) (hc : c < 4) (hst : st < 1000000) (hk : gA M 12 (4 * x + c) = -1) (hlen : (ttx g x).length ≤ 300) (hL : l.length < 10000) (h20 : gL M 20 ≤ 30000) (hu : unK M c (ndK g x) = []) (hU : tU g + cb (ttx g x) < 131072) (hK : tKU g + kb (ttx g x) ≤ 500000) :
    ∃ M1 g1, dvL (F + 1) (t, Int32.ofNat c, Int32.ofNat st, M) = dvL F (t, Int32.ofNat c, Int32.ofNat (st + 1), M1) ∧ TI g1 M1 ∧ TE g g1 ∧ RO M1 ∧ RW M1 19 20 l ∧ KA g1 M1 c x ∧ tU g1 ≤ tU g + cb (ttx g x) ∧ tKU g1 ≤ tKU g + kb (ttx g x) ∧ FC RNd FNd M M1 ∧ gL M1 20 ≤ 30000 ∧ KP g M M1 := by
  have hlt := h.2.1.lt
  have hks := kid_sum h.1 hx
  have hnl : (tkd g x).length ≤ 300 := by
    have h1 : (tkd g x).length ≤ ((tkd g x).map (fun k => (ttx g k).length)).sum := by
      have q : ∀ l : List Nat, (∀ k ∈ l, k < tU g) → l.length ≤ (l.map (fun k => (ttx g k).length)).sum := by
        intro l
        induction l with
        | nil => intro _; exact Nat.le_refl _
        | cons y l ih =>
          intro hl
          have h1 := ih (fun k hk => hl k (List.mem_cons_of_mem _ hk))
          have h2 : 1 ≤ (ttx g y).length := List.length_pos_iff.mpr (wf_ne (h.1.wf (hl y List.mem_cons_self)))
          rw [List.length_cons, List.map_cons, List.sum_cons]
          omega
      exact q _ (fun k hk => Nat.lt_trans (h.1.kids hx k hk) hx)
    omega
  obtain ⟨M1, b1, b2, b3, b4, b5⟩ := c_dvB (F := F) (t := t) h hG hW hx hc hst hk hnl hL
  rw [hu, if_neg (by simp)] at b5
  rw [hu, List.append_nil] at b2
  have hr1 := hr.r19 b3
  have hknown : ∀ k ∈ ndK g x, KA g M1 c k := fun k hkm => by
    have hkt := (ndK_sub g x).subset hkm
    have hkU : k < tU g := Nat.lt_trans (h.1.kids hx k hkt) hx
    have hne : ¬ gA M 12 (4 * k + c) = -1 := fun q => by
      have : k ∈ unK M c (ndK g x) := List.mem_filter.mpr ⟨hkm, by simpa using q⟩
      rw [hu] at this
      cases this
    rcases b1.2.2.2.1 k c hkU hc with q | ⟨d, d1, d2, d3⟩
    · rw [b3.ga (by decide)] at q
      exact absurd q hne
    · exact ⟨d, d1, d2, d3⟩
  have hkU0 : 0 < (tkd g x).length → (tkd g x).getD 0 0 < tU g := fun hp => by
    have hm : (tkd g x).getD 0 0 ∈ tkd g x := by
      rw [List.getD_eq_getElem?_getD, List.getElem?_eq_getElem hp, Option.getD_some]
      exact List.getElem_mem hp
    exact Nat.lt_trans (h.1.kids hx _ hm) hx
  obtain ⟨M2, g1, d, e1, e2, e3, e4, e5, e6, e7, e8, e9, e10⟩ := c_combined (c := c) b1 hr1 (hG.fc b3) hx hc hlen (fun j hj hcond => by
    refine hknown _ ?_
    have hm : (tkd g x).getD j 0 ∈ tkd g x := by
      rw [List.getD_eq_getElem?_getD, List.getElem?_eq_getElem hj, Option.getD_some]
      exact List.getElem_mem hj
    unfold ndK
    split
    · rename_i hcc
      obtain ⟨p, q, y1, -⟩ := h.1.cat2 hx hcc.1
      rw [y1] at hj hcond hcc ⊢
      simp only [List.length_cons, List.length_nil] at hj
      by_cases hj1 : j = 1
      · have := hcond hcc.1 hj1
        rw [hcc.2] at this
        cases this
      · have hj0 : j = 0 := by omega
        rw [hj0]
        simp
    · exact hm) (fun hs37 d' hd1 hd2 => spn_DS h.1 hd1 (h.1.wf (hkU0 (by
      rcases hs37 with q | q
      · obtain ⟨p, q', y1, -⟩ := h.1.cat2 hx q
        rw [y1]; simp
      · obtain ⟨p, y1, -⟩ := h.1.one6 hx (Or.inr rfl) q
        rw [y1]; simp))) hd2) hU hK
  have hx1 : x < tU g1 := Nat.lt_of_lt_of_le hx e3.1
  have hI3 := e2.store hx1 hc e4 (by rw [e5, e3.tx hx])
  have hfs : FC [12] [] M2 (sA M2 12 (4 * x + c) (Int32.ofNat d)) := FC.of (Fr.stA (by decide))
  have hlt1 := e2.2.1.lt
  have hW3 : RW (sA M2 12 (4 * x + c) (Int32.ofNat d)) 19 20 (l ++ [x]) := (b2.fc e8 (by decide) (by decide)).fc hfs (by decide) (by decide)
  obtain ⟨M4, f1, f2, f3⟩ := c_dropLast isR19 hW3
  have hwl := hW.2.1
  have hwl2 := hW.2.2.2.1
  rw [List.length_append, List.length_singleton] at hwl
  have hgl : gL M4 20 = gL M1 20 := by
    have := f1
    unfold m_Row_dropLast at this
    rw [if_pos isR19.kd.1, hW3.1, List.length_append, List.length_singleton, if_neg (by rw [i_le, i_of (by omega), i_0]; omega)] at this
    simp only [Option.bind_some, Option.some.injEq, Prod.mk.injEq, and_true] at this
    rw [← this]
    show gL M2 20 = gL M1 20
    exact e8.gl (by decide)
  have hI4 := hI3.row isR19 f3
  have hr3 : RO (sA M2 12 (4 * x + c) (Int32.ofNat d)) := by
    obtain ⟨⟨l1, r1⟩, ⟨l2, r2⟩, ⟨l3, r3⟩, r4, r5, r6, r7⟩ := e9
    exact ⟨⟨l1, r1.fc hfs (by decide) (by decide)⟩, ⟨l2, r2.fc hfs (by decide) (by decide)⟩, ⟨l3, r3.fc hfs (by decide) (by decide)⟩, r4, r5, r6, r7⟩
  obtain ⟨-, ⟨n3, n4⟩, ⟨o4, o5, o6, o7, o8, o9, o10, o11, o12, o14⟩, -, -⟩ := e2.2.1
  have g12 : ∀ p, gA M4 12 p = if p = 4 * x + c then Int32.ofNat d else gA M2 12 p := fun p => by
    rw [f3.ga (by decide), gA_sA]
    by_cases hp : p = 4 * x + c
    · rw [if_pos ⟨rfl, hp⟩, if_pos hp]
    · rw [if_neg (fun q => hp q.2), if_neg hp]
  refine ⟨M4, g1, ?_, hI4, e3, hr3.r19 f3, f2, ⟨d, e4, by rw [g12, if_pos rfl], by rw [e5, e3.tx hx]⟩, e6, e7, (((b3.mono (by decide) (by decide)).tr (e8.mono (by decide) (by decide))).tr (hfs.mono (by decide) (by decide))).tr (f3.mono (by decide) (by decide)), by rw [hgl]; omega, fun p hp hn => ?_⟩
  · rw [b5, cal_some e1 e8.le.1 e8.le.2, st_of (by show _ < gL M2 12; omega) (by omega), Option.bind_some]
    exact cal_some f1 f3.le.1 f3.le.2
  · rw [g12, if_neg (fun q => hn (by rw [q]; exact hk)), e10 p hp, b3.ga (by decide)]
