/-! STEP 2, the class: has: the parts of a term in an order -/
def gtt (g : TG) (f : Nat → Nat) : TG := (tU g, tso g, tkd g, ttx g, tkf g, tKU g, f)
/-- the parts that are arranged -/
def AR (g : TG) (M : MS) (ol : List Nat) : Prop := (ol.length ≤ 100 ∧ gI M 75 3 = Int32.ofNat ol.length ∧ gL M 76 = 100) ∧ ol.Nodup ∧ (∀ j, j < ol.length → gA M 76 j = Int32.ofNat (ol.getD j 0) ∧ ttg g (ol.getD j 0) = j ∧ ol.getD j 0 < tU g) ∧ (∀ j, j < ol.length → ∀ k ∈ tkd g (ol.getD j 0), ∃ i, i < j ∧ ol.getD i 0 = k)
theorem AR.fc {g : TG} {M M1 : MS} {ol : List Nat} {R : List Nat} {F : List (Nat × Nat)} (h : AR g M ol) (hf : FC R F M M1) (h1 : 76 ∉ R) (h2 : (75, 3) ∉ F) : AR g M1 ol := by
  obtain ⟨⟨a1, a2, a3⟩, a4, a5, a6⟩ := h
  exact ⟨⟨a1, by rw [hf.gi h2]; exact a2, by rw [hf.gl h1]; exact a3⟩, a4, fun j hj => by rw [hf.ga h1]; exact a5 j hj, a6⟩
theorem gD_mem {ol : List Nat} {j : Nat} (h : j < ol.length) : ol.getD j 0 ∈ ol := by
  rw [List.getD_eq_getElem?_getD, List.getElem?_eq_getElem h, Option.getD_some]
  exact List.getElem_mem h
theorem mem_gD {ol : List Nat} {x : Nat} (h : x ∈ ol) : ∃ j, j < ol.length ∧ ol.getD j 0 = x := by
  obtain ⟨j, hj, e⟩ := List.getElem_of_mem h
  exact ⟨j, hj, by rw [List.getD_eq_getElem?_getD, List.getElem?_eq_getElem hj, Option.getD_some]; exact e⟩
theorem c_isArr {g : TG} {M : MS} {ol : List Nat} {x : Nat} (hI : TI g M) (hA : AR g M ol) (hx : x < tU g) : m_WordCheck_isArranged (Int32.ofNat x) M = some (M, b01 (decide (x ∈ ol))) := by
  have hlt := hI.2.1.lt
  obtain ⟨-, ⟨m3, m4⟩, ⟨l4, l5, l6, l7, l8, l9, l10, -⟩, -, -⟩ := hI.2.1
  obtain ⟨t1, t2⟩ := hI.2.2.2.2 x hx
  obtain ⟨⟨a1, a2, a3⟩, a4, a5, a6⟩ := hA
  have hno : (∀ j, j < ol.length → ol.getD j 0 ≠ x) → x ∉ ol := fun h hm => by
    obtain ⟨j, j1, j2⟩ := mem_gD hm
    exact h j j1 j2
  unfold m_WordCheck_isArranged m_Terms_tagOf
  rw [ld_of (by omega) (by omega), Option.bind_some, cal_same, t1]
  show (if gI M 75 3 ≤ Int32.ofNat (ttg g x) then some (M, (0 : Int32)) else (ldA M 76 (Int32.ofNat (ttg g x))).bind fun v2 => if ¬ v2 = Int32.ofNat x then some (M, 0) else some (M, 1)) = _
  rw [a2]
  by_cases hc : ol.length ≤ ttg g x
  · rw [if_pos (by rw [i_le_of (by omega) (by omega)]; exact hc), decide_eq_false (hno (fun j hj e => by
      have := (a5 j hj).2.1
      rw [e] at this
      omega))]
    rfl
  · obtain ⟨b1, b2, b3⟩ := a5 (ttg g x) (by omega)
    rw [if_neg (by rw [i_le_of (by omega) (by omega)]; exact hc), ld_of (by omega) (by omega), b1, Option.bind_some]
    by_cases he : ol.getD (ttg g x) 0 = x
    · rw [if_neg (fun q => q (by rw [he])), decide_eq_true (by rw [← he]; exact gD_mem (by omega))]
      rfl
    · rw [if_pos (by rw [i_eq_of (by omega) (by omega)]; exact he), decide_eq_false (hno (fun j hj e => by
        have := (a5 j hj).2.1
        rw [e] at this
        rw [this] at he
        exact he e))]
      rfl
def unA (ol : List Nat) (l : List Nat) : List Nat := l.filter (fun k => decide (k ∉ ol))
theorem tk1 {l : List Nat} {j : Nat} (h : j < l.length) : l.take (j + 1) = l.take j ++ [l.getD j 0] := by
  rw [List.take_succ, List.getD_eq_getElem?_getD, List.getElem?_eq_getElem h]
  rfl
theorem c_asksW {g : TG} {M : MS} {i : Nat} {ol L : List Nat} (hI : TI g M) (hA : AR g M ol) (hG : GD M) (hi : i < tU g) (hnl : (tkd g i).length ≤ 300) (hL : L.length ≤ 10000) (hW : RW M 78 79 L) : ∃ M1, m_WordCheck_asksForMore (Int32.ofNat i) M = some (M1, b01 (decide (unA ol (tkd g i) ≠ []))) ∧ RW M1 78 79 (L ++ unA ol (tkd g i)) ∧ FC [79] [(78, 1)] M M1 ∧ gL M1 79 ≤ max (gL M 79) 30000 := by
  have hlt := hI.2.1.lt
  obtain ⟨M1, ⟨h1, h2, h3⟩, h4⟩ := lp0 (b := fun (k : Int32 × Int32 × Int32 × MS → Option (MS × Int32)) (i : Int32 × Int32 × Int32 × MS) => m_WordCheck_asksForMore_11b k i.1 i.2.1 i.2.2.1 i.2.2.2) (fun j (M' : MS) => (Int32.ofNat i, Int32.ofNat L.length, Int32.ofNat j, M'))
    (fun j M' => RW M' 78 79 (L ++ unA ol ((tkd g i).take j)) ∧ FC [79] [(78, 1)] M M' ∧ gL M' 79 ≤ max (gL M 79) 30000) (fun M' => m_WordCheck_asksForMore_56 (Int32.ofNat L.length) M') (n := (tkd g i).length) (by
    intro k j M' hj ⟨h1, h2, h3⟩
    have hI' := hI.row isR78 h2
    have hA' := hA.fc h2 (by decide) (by decide)
    have hkid := c_kid hI' hi hj
    have hkU : (tkd g i).getD j 0 < tU g := Nat.lt_trans (hI.1.kids hi _ (gD_mem hj)) hi
    have harr := c_isArr hI' hA' hkU
    have hul : (unA ol ((tkd g i).take j)).length ≤ (tkd g i).length := Nat.le_trans (List.length_filter_le _ _) (by rw [List.length_take]; omega)
    have etk : unA ol ((tkd g i).take (j + 1)) = unA ol ((tkd g i).take j) ++ (if (tkd g i).getD j 0 ∈ ol then [] else [(tkd g i).getD j 0]) := by
      rw [tk1 hj]
      unfold unA
      rw [List.filter_append]
      congr 1
      by_cases hm : (tkd g i).getD j 0 ∈ ol
      · rw [if_pos hm, List.filter_cons_of_neg (by simpa using hm), List.filter_nil]
      · rw [if_neg hm, List.filter_cons_of_pos (by simpa using hm), List.filter_nil]
    by_cases hm : (tkd g i).getD j 0 ∈ ol
    · refine ⟨M', ⟨by rw [etk, if_pos hm, List.append_nil]; exact h1, h2, h3⟩, ?_⟩
      show m_WordCheck_asksForMore_11b k (Int32.ofNat i) (Int32.ofNat L.length) (Int32.ofNat j) M' = _
      unfold m_WordCheck_asksForMore_11b
      rw [hI'.cnt hi, cal_same, if_neg (by rw [i_le_of (by omega) (by omega)]; omega), hkid, cal_same]
      show cal cM M' (m_WordCheck_isArranged (Int32.ofNat ((tkd g i).getD j 0)) M') _ = _
      rw [harr, cal_same, decide_eq_true hm, if_pos (by show ¬ b01 true = 0; decide), i_inc]
    · obtain ⟨M2, a1, a2, a3, a4⟩ := c_add (x := (tkd g i).getD j 0) isR78 h1 (hG.fc h2) (by rw [List.length_append]; omega)
      rw [List.length_append] at a4
      refine ⟨M2, ⟨by rw [etk, if_neg hm, ← List.append_assoc]; exact a2, h2.tr a3, by omega⟩, ?_⟩
      show m_WordCheck_asksForMore_11b k (Int32.ofNat i) (Int32.ofNat L.length) (Int32.ofNat j) M' = _
      unfold m_WordCheck_asksForMore_11b
      rw [hI'.cnt hi, cal_same, if_neg (by rw [i_le_of (by omega) (by omega)]; omega), hkid, cal_same]
      show cal cM M' (m_WordCheck_isArranged (Int32.ofNat ((tkd g i).getD j 0)) M') _ = _
      rw [harr, cal_same, decide_eq_false hm, if_neg (by show ¬ ¬ b01 false = 0; decide)]
      show cal cM M' (m_Terms_kid (Int32.ofNat i) (Int32.ofNat j) M') _ = _
      rw [hkid, cal_same]
      show cal cM M' (m_Row_add 78 (Int32.ofNat ((tkd g i).getD j 0)) M') _ = _
      rw [cal_some a1 a3.le.1 a3.le.2, i_inc]) (by
    intro k M' ⟨h1, h2, h3⟩
    show m_WordCheck_asksForMore_11b k (Int32.ofNat i) (Int32.ofNat L.length) (Int32.ofNat (tkd g i).length) M' = _
    unfold m_WordCheck_asksForMore_11b
    rw [(hI.row isR78 h2).cnt hi, cal_same, if_pos (Int32.le_refl _)]) M (by omega) ⟨by unfold unA; rw [List.take_zero, List.filter_nil, List.append_nil]; exact hW, FC.rf, by omega⟩
  rw [List.take_length] at h1
  have hul : (unA ol (tkd g i)).length ≤ (tkd g i).length := List.length_filter_le _ _
  refine ⟨M1, ?_, h1, h2, h3⟩
  unfold m_WordCheck_asksForMore
  rw [c_size isR78 hW, cal_same]
  refine Eq.trans h4 ?_
  unfold m_WordCheck_asksForMore_56
  rw [c_size isR78 h1, cal_same, List.length_append]
  cases hu : unA ol (tkd g i) with
  | nil =>
    rw [if_pos (by show Int32.ofNat (L.length + 0) ≤ Int32.ofNat L.length; exact Int32.le_refl _)]
    rfl
  | cons y r =>
    rw [hu, List.length_cons] at hul
    rw [if_neg (by show ¬ Int32.ofNat (L.length + (y :: r).length) ≤ Int32.ofNat L.length; rw [List.length_cons, i_le_of (by omega) (by omega)]; omega)]
    rfl
def arL (F : Nat) (z : Int32 × MS) : Option (MS × Unit) := fx (fun (k : Int32 × MS → Option (MS × Unit)) (i : Int32 × MS) => m_WordCheck_arrange_22b k i.1 i.2) F z
theorem arL_succ (F : Nat) (st : Int32) (M : MS) : arL (F + 1) (st, M) = m_WordCheck_arrange_22b (arL F) st M := rfl
/-- the topmost is looked at -/
theorem c_arTop {M : MS} {l : List Nat} {x st : Nat} (k : Int32 × MS → Option (MS × Unit)) (hW : RW M 78 79 (l ++ [x])) (hst : st < 1000000) : m_WordCheck_arrange_22b k (Int32.ofNat st) M = cal cM M (m_WordCheck_isArranged (Int32.ofNat x) M) fun r4 =>
  if r4.2 = 0 then (cal cM r4.1 (m_WordCheck_asksForMore (Int32.ofNat x) r4.1) fun r5 =>
  if ¬ r5.2 = 0 then (k ((Int32.ofNat (st + 1)), r5.1)) else (if (100:Int32) ≤ (gI r5.1 75 3) then (k ((Int32.ofNat (st + 1)), r5.1)) else ((stA r5.1 76 (gI r5.1 75 3) (Int32.ofNat x)).bind fun M6 =>
  cal cM M6 (m_Terms_setTag (Int32.ofNat x) (gI M6 75 3) M6) fun r7 =>
  (some (sI r7.1 75 3 ((gI r7.1 75 3) + (1:Int32)))).bind fun M8 =>
  cal cM M8 (m_Row_dropLast 78 M8) fun r9 =>
  k ((Int32.ofNat (st + 1)), r9.1)))) else (cal cM r4.1 (m_Row_dropLast 78 r4.1) fun r10 =>
  k ((Int32.ofNat (st + 1)), r10.1)) := by
  have hwl := hW.2.1
  have hwl2 := hW.2.2.2.1
  rw [List.length_append, List.length_singleton] at hwl
  have gx : (l ++ [x]).getD l.length 0 = x := by simp
  have hget := c_get (j := l.length) isR78 hW (by rw [List.length_append, List.length_singleton]; omega)
  rw [gx] at hget
  unfold m_WordCheck_arrange_22b
  rw [if_neg (by rw [show (1000000 : Int32) = Int32.ofNat 1000000 from rfl, i_le_of (by omega) (by omega)]; omega), c_size isR78 hW, cal_same, if_neg (by show ¬ Int32.ofNat (l ++ [x]).length ≤ 0; rw [List.length_append, List.length_singleton, i_le, i_of (by omega), i_0]; omega)]
  show cal cM M (m_Row_size 78 M) _ = _
  rw [c_size isR78 hW, cal_same, List.length_append, List.length_singleton]
  show cal cM M (m_Row_get 78 (Int32.ofNat (l.length + 1) - 1) M) _ = _
  rw [i_pred (by omega) (by omega), Nat.add_sub_cancel, hget, cal_same, i_inc]
def RAr : List Nat := [10, 76, 79]
def FAr : List (Nat × Nat) := [(75, 3), (78, 1)]
def AWp (g : TG) (U : List Nat) (K : List Nat) (M : MS) (ol l : List Nat) (st F B : Nat) : Prop := ∃ M1 f1 ol1 n, n ≤ B ∧ arL F (Int32.ofNat st, M) = arL (F - n) (Int32.ofNat (st + n), M1) ∧ TI (gtt g f1) M1 ∧ AR (gtt g f1) M1 ol1 ∧ RW M1 78 79 l ∧ (∀ x ∈ K, x ∈ ol1) ∧ (∀ x ∈ ol, x ∈ ol1) ∧ (∀ x ∈ ol1, x ∈ U) ∧ FC RAr FAr M M1 ∧ gL M1 79 ≤ 30000
def AW (g : TG) (U : List Nat) (x : Nat) : Prop := ∀ (f : Nat → Nat) (M : MS) (ol l : List Nat) (st F : Nat), TI (gtt g f) M → AR (gtt g f) M ol → GD M → RW M 78 79 (l ++ [x]) → (∀ y ∈ ol, y ∈ U) → x ∈ U → st + 3 * (ttx g x).length ≤ 900000 → l.length + (ttx g x).length ≤ 5000 → gL M 79 ≤ 30000 → 3 * (ttx g x).length ≤ F → AWp g U [x] M ol l st F (3 * (ttx g x).length)
theorem c_apile {g : TG} {U : List Nat} (hB : TB g) (hU : ∀ x ∈ U, x < tU g) : ∀ (n : Nat) (K : List Nat), K.length = n → (∀ x ∈ K, AW g U x) → ∀ (f : Nat → Nat) (M : MS) (ol l : List Nat) (st F : Nat), TI (gtt g f) M → AR (gtt g f) M ol → GD M → RW M 78 79 (l ++ K) → (∀ y ∈ ol, y ∈ U) → (∀ x ∈ K, x ∈ U) → st + 3 * sL g List.length K ≤ 900000 → l.length + sL g List.length K ≤ 5000 → gL M 79 ≤ 30000 → 3 * sL g List.length K ≤ F →
    AWp g U K M ol l st F (3 * sL g List.length K) := by
  intro n
  induction n with
  | zero =>
    intro K hn hP f M ol l st F hI hA hG hW hol hKU hst hl h79 hF
    obtain rfl := List.length_eq_zero_iff.mp hn
    rw [List.append_nil] at hW
    exact ⟨M, f, ol, 0, by omega, by rw [Nat.sub_zero, Nat.add_zero], hI, hA, hW, (fun x hx => by cases hx), fun x hx => hx, hol, FC.rf, h79⟩
  | succ n ih =>
    intro K hn hP f M ol l st F hI hA hG hW hol hKU hst hl h79 hF
    rcases List.eq_nil_or_concat K with rfl | ⟨K', x, rfl⟩
    · simp at hn
    rw [List.concat_eq_append] at *
    rw [List.length_append, List.length_singleton] at hn
    rw [sL_snoc] at hst hl hF ⊢
    have hxU := hKU x (by simp)
    have hK'U : ∀ y ∈ K', y ∈ U := fun y hy => hKU y (List.mem_append_left _ hy)
    have hK'l := len_sL hB K' (fun y hy => hU y (hK'U y hy))
    rw [← List.append_assoc] at hW
    obtain ⟨M1, f1, ol1, m, a1, a2, a3, a4, a5, a6, a7, a8, a9, a10⟩ := hP x (by simp) f M ol (l ++ K') st F hI hA hG hW hol hxU (by omega) (by rw [List.length_append]; omega) h79 (by omega)
    obtain ⟨M2, f2, ol2, m2, b1, b2, b3, b4, b5, b6, b7, b8, b9, b10⟩ := ih K' (by omega) (fun y hy => hP y (List.mem_append_left _ hy)) f1 M1 ol1 l (st + m) (F - m) a3 a4 (hG.fc a9) a5 a8 hK'U (by omega) (by omega) a10 (by omega)
    refine ⟨M2, f2, ol2, m + m2, by omega, ?_, b3, b4, b5, fun y hy => ?_, fun y hy => b7 y (a7 y hy), b8, a9.tr b9, b10⟩
    · rw [a2, b2, Nat.sub_sub, Nat.add_assoc]
    · rcases List.mem_append.mp hy with q | q
      · exact b6 y q
      · exact b7 y (a6 y q)
/-- the topmost is arranged: it leaves the pile -/
theorem c_arA {g : TG} {M : MS} {ol l : List Nat} {x st F : Nat} (hI : TI g M) (hA : AR g M ol) (hW : RW M 78 79 (l ++ [x])) (hx : x < tU g) (hst : st < 1000000) (hm : x ∈ ol) : ∃ M1, arL (F + 1) (Int32.ofNat st, M) = arL F (Int32.ofNat (st + 1), M1) ∧ RW M1 78 79 l ∧ FC [79] [(78, 1)] M M1 ∧ gL M1 79 = gL M 79 := by
  obtain ⟨M1, a1, a2, a3⟩ := c_dropLast isR78 hW
  have hwl := hW.2.1
  have hwl2 := hW.2.2.2.1
  rw [List.length_append, List.length_singleton] at hwl
  have hgl : gL M1 79 = gL M 79 := by
    have := a1
    unfold m_Row_dropLast at this
    rw [if_pos isR78.kd.1, hW.1, List.length_append, List.length_singleton, if_neg (by rw [i_le, i_of (by omega), i_0]; omega)] at this
    simp only [Option.bind_some, Option.some.injEq, Prod.mk.injEq, and_true] at this
    rw [← this]
    rfl
  refine ⟨M1, ?_, a2, a3, hgl⟩
  rw [arL_succ, c_arTop _ hW hst, c_isArr hI hA hx, cal_same, decide_eq_true hm, if_neg (by show ¬ b01 true = 0; decide)]
  show cal cM M (m_Row_dropLast 78 M) _ = _
  rw [cal_some a1 a3.le.1 a3.le.2]
/-- the topmost asks for parts -/
theorem c_arB {g : TG} {M : MS} {ol l : List Nat} {x st F : Nat} (hI : TI g M) (hA : AR g M ol) (hG : GD M) (hW : RW M 78 79 (l ++ [x])) (hx : x < tU g) (hst : st < 1000000) (hm : x ∉ ol) (hnl : (tkd g x).length ≤ 300) (hl : l.length ≤ 9000) (hu : unA ol (tkd g x) ≠ []) : ∃ M1, arL (F + 1) (Int32.ofNat st, M) = arL F (Int32.ofNat (st + 1), M1) ∧ RW M1 78 79 (l ++ [x] ++ unA ol (tkd g x)) ∧ FC [79] [(78, 1)] M M1 ∧ gL M1 79 ≤ max (gL M 79) 30000 := by
  obtain ⟨M1, b1, b2, b3, b4⟩ := c_asksW hI hA hG hx hnl (by rw [List.length_append, List.length_singleton]; omega) hW
  refine ⟨M1, ?_, b2, b3, b4⟩
  rw [arL_succ, c_arTop _ hW hst, c_isArr hI hA hx, cal_same, decide_eq_false hm, if_pos (by show b01 false = 0; decide)]
  show cal cM M (m_WordCheck_asksForMore (Int32.ofNat x) M) _ = _
  rw [cal_some b1 b3.le.1 b3.le.2, decide_eq_true hu, if_pos (by show ¬ b01 true = 0; decide)]
/-- the topmost comes into the order -/
theorem c_arC {g : TG} {f : Nat → Nat} {M : MS} {ol l : List Nat} {x st F : Nat} (hI : TI (gtt g f) M) (hA : AR (gtt g f) M ol) (hG : GD M) (hW : RW M 78 79 (l ++ [x])) (hx : x < tU g) (hst : st < 1000000) (hm : x ∉ ol) (hc : ol.length < 100) (hnl : (tkd g x).length ≤ 300) (hl : l.length ≤ 9000) (h79 : gL M 79 ≤ 30000) (hu : ∀ k ∈ tkd g x, k ∈ ol) :
    ∃ M1, arL (F + 1) (Int32.ofNat st, M) = arL F (Int32.ofNat (st + 1), M1) ∧ TI (gtt g (updN f x ol.length)) M1 ∧ AR (gtt g (updN f x ol.length)) M1 (ol ++ [x]) ∧ RW M1 78 79 l ∧ FC RAr FAr M M1 ∧ gL M1 79 ≤ 30000 := by
  have hue : unA ol (tkd g x) = [] := by
    unfold unA
    exact List.filter_eq_nil_iff.mpr (fun k hk => by simpa using hu k hk)
  obtain ⟨M1, b1, b2, b3, b4⟩ := c_asksW hI hA hG hx hnl (by rw [List.length_append, List.length_singleton]; omega) hW
  have hue' : unA ol (tkd (gtt g f) x) = [] := hue
  rw [hue', List.append_nil] at b2
  rw [hue'] at b1
  have hI1 := hI.row isR78 b3
  have hA1 := hA.fc b3 (by decide) (by decide)
  have hlt := hI1.2.1.lt
  have hlt' : tU g ≤ 131072 := hlt.1
  obtain ⟨-, ⟨m3, m4⟩, ⟨l4, l5, l6, l7, l8, l9, l10, -⟩, -, -⟩ := hI1.2.1
  have m3' : tU g ≤ gL M1 3 := m3
  obtain ⟨⟨a1, a2, a3⟩, a4, a5, a6⟩ := hA1
  -- the writings
  have hI2 : TI (gtt g (updN f x ol.length)) (sA (sA M1 76 ol.length (Int32.ofNat x)) 10 x (Int32.ofNat ol.length)) := by
    have h0 : TI (gtt g f) (sA M1 76 ol.length (Int32.ofNat x)) := hI1.fc (FC.of (Fr.stA (R := [76]) (F := []) (by simp))) (fun a h1 h2 => Or.inl (fun q => by have := List.mem_singleton.mp q; omega)) ⟨rfl, rfl⟩ (by simp) (by simp)
    exact h0.tag (i := x) (v := ol.length) (by omega)
  have hf3 : FC RAr FAr M1 (sI (sA (sA M1 76 ol.length (Int32.ofNat x)) 10 x (Int32.ofNat ol.length)) 75 3 (Int32.ofNat (ol.length + 1))) := FC.of (((Fr.stA (by decide)).tr (Fr.stA (by decide))).tr (Fr.stI (by decide)))
  have hI3 : TI (gtt g (updN f x ol.length)) (sI (sA (sA M1 76 ol.length (Int32.ofNat x)) 10 x (Int32.ofNat ol.length)) 75 3 (Int32.ofNat (ol.length + 1))) := hI2.fc (FC.of (Fr.stI (R := []) (F := [(75, 3)]) (by simp))) (fun a h1 h2 => Or.inl (by simp)) ⟨rfl, rfl⟩ (by decide) (by decide)
  have hW3 : RW (sI (sA (sA M1 76 ol.length (Int32.ofNat x)) 10 x (Int32.ofNat ol.length)) 75 3 (Int32.ofNat (ol.length + 1))) 78 79 (l ++ [x]) := b2.fc (FC.of (((Fr.stA (R := [10, 76]) (F := [(75, 3)]) (by decide)).tr (Fr.stA (by decide))).tr (Fr.stI (by decide)))) (by decide) (by decide)
  have g76 : ∀ p, gA (sI (sA (sA M1 76 ol.length (Int32.ofNat x)) 10 x (Int32.ofNat ol.length)) 75 3 (Int32.ofNat (ol.length + 1))) 76 p = if p = ol.length then Int32.ofNat x else gA M1 76 p := fun p => by
    rw [gA_sI, gA_sA, if_neg (by omega), gA_sA]
    simp
  have g753 : gI (sI (sA (sA M1 76 ol.length (Int32.ofNat x)) 10 x (Int32.ofNat ol.length)) 75 3 (Int32.ofNat (ol.length + 1))) 75 3 = Int32.ofNat (ol.length + 1) := by rw [gI_sI, if_pos ⟨rfl, rfl⟩]
  have gl3 : gL (sI (sA (sA M1 76 ol.length (Int32.ofNat x)) 10 x (Int32.ofNat ol.length)) 75 3 (Int32.ofNat (ol.length + 1))) = gL M1 := rfl
  have hgo : ∀ k : Int32 × MS → Option (MS × Unit), m_WordCheck_arrange_22b k (Int32.ofNat st) M = cal cM (sI (sA (sA M1 76 ol.length (Int32.ofNat x)) 10 x (Int32.ofNat ol.length)) 75 3 (Int32.ofNat (ol.length + 1))) (m_Row_dropLast 78 (sI (sA (sA M1 76 ol.length (Int32.ofNat x)) 10 x (Int32.ofNat ol.length)) 75 3 (Int32.ofNat (ol.length + 1)))) fun r9 => k ((Int32.ofNat (st + 1)), r9.1) := fun k => by
    rw [c_arTop _ hW hst, c_isArr hI hA hx, cal_same, decide_eq_false hm, if_pos (by show b01 false = 0; decide)]
    show cal cM M (m_WordCheck_asksForMore (Int32.ofNat x) M) _ = _
    rw [cal_some b1 b3.le.1 b3.le.2, decide_eq_false (fun q => q rfl), if_neg (by show ¬ ¬ b01 false = 0; decide)]
    show (if (100:Int32) ≤ (gI M1 75 3) then _ else (stA M1 76 (gI M1 75 3) (Int32.ofNat x)).bind _) = _
    rw [a2, if_neg (by rw [show (100 : Int32) = Int32.ofNat 100 from rfl, i_le_of (by omega) (by omega)]; omega), st_of (by omega) (by omega), Option.bind_some]
    have e75 : gI (sA M1 76 ol.length (Int32.ofNat x)) 75 3 = Int32.ofNat ol.length := a2
    have etag : m_Terms_setTag (Int32.ofNat x) (Int32.ofNat ol.length) (sA M1 76 ol.length (Int32.ofNat x)) = some (sA (sA M1 76 ol.length (Int32.ofNat x)) 10 x (Int32.ofNat ol.length), ()) := by
      unfold m_Terms_setTag
      rw [st_of (by show x < gL M1 10; omega) (by omega), Option.bind_some]
    rw [e75, etag, cal_sA]
    have e75' : gI (sA (sA M1 76 ol.length (Int32.ofNat x)) 10 x (Int32.ofNat ol.length)) 75 3 = Int32.ofNat ol.length := a2
    rw [e75', i_inc, Option.bind_some]
  generalize sI (sA (sA M1 76 ol.length (Int32.ofNat x)) 10 x (Int32.ofNat ol.length)) 75 3 (Int32.ofNat (ol.length + 1)) = M3 at hf3 hI3 hW3 g76 g753 gl3 hgo
  obtain ⟨M4, d1, d2, d3⟩ := c_dropLast isR78 hW3
  have hwl := hW3.2.1
  have hwl2 := hW3.2.2.2.1
  rw [List.length_append, List.length_singleton] at hwl
  have hgl : gL M4 79 = gL M3 79 := by
    have := d1
    unfold m_Row_dropLast at this
    rw [if_pos isR78.kd.1, hW3.1, List.length_append, List.length_singleton, if_neg (by rw [i_le, i_of (by omega), i_0]; omega)] at this
    simp only [Option.bind_some, Option.some.injEq, Prod.mk.injEq, and_true] at this
    rw [← this]
    rfl
  have hA3 : AR (gtt g (updN f x ol.length)) M3 (ol ++ [x]) := by
    have ell : (ol ++ [x]).length = ol.length + 1 := by rw [List.length_append, List.length_singleton]
    have gl : ∀ j, j < ol.length → (ol ++ [x]).getD j 0 = ol.getD j 0 := fun j hj => by
      rw [List.getD_eq_getElem?_getD, List.getElem?_append_left hj, ← List.getD_eq_getElem?_getD]
    have gx : (ol ++ [x]).getD ol.length 0 = x := by simp
    refine ⟨⟨by omega, by rw [g753, ell], by rw [gl3]; exact a3⟩, ?_, fun j hj => ?_, fun j hj k hk => ?_⟩
    · rw [List.nodup_append]
      refine ⟨a4, (by simp), fun a ha b hb => ?_⟩
      rw [List.mem_singleton.mp hb]
      intro e
      rw [e] at ha
      exact hm ha
    · rw [g76]
      by_cases e : j = ol.length
      · rw [if_pos e, e, gx]
        exact ⟨rfl, by show updN f x ol.length x = ol.length; rw [updN_eq], hx⟩
      · obtain ⟨c1, c2, c3⟩ := a5 j (by omega)
        rw [if_neg e, gl j (by omega)]
        refine ⟨c1, ?_, c3⟩
        show updN f x ol.length (ol.getD j 0) = j
        rw [updN_ne _ _ (fun q => hm (by rw [← q]; exact gD_mem (by omega)))]
        exact c2
    · by_cases e : j = ol.length
      · rw [e, gx] at hk
        obtain ⟨i, i1, i2⟩ := mem_gD (hu k hk)
        exact ⟨i, by omega, by rw [gl i i1]; exact i2⟩
      · rw [gl j (by omega)] at hk
        obtain ⟨i, i1, i2⟩ := a6 j (by omega) k hk
        exact ⟨i, i1, by rw [gl i (by omega)]; exact i2⟩
  refine ⟨M4, ?_, hI3.row isR78 d3, hA3.fc d3 (by decide) (by decide), d2, ((b3.mono (by decide) (by decide)).tr hf3).tr (d3.mono (by decide) (by decide)), by rw [hgl, gl3]; omega⟩
  rw [arL_succ, hgo, cal_some d1 d3.le.1 d3.le.2]
theorem AW_all {g : TG} {U : List Nat} (hB : TB g) (hU : ∀ x ∈ U, x < tU g ∧ ∀ k ∈ tkd g x, k ∈ U) (hUl : U.length ≤ 100) (h300 : ∀ x ∈ U, (ttx g x).length ≤ 100) : ∀ x, AW g U x := by
  intro x
  induction x using Nat.strongRecOn with
  | ind x ih =>
    intro f M ol l st F hI hA hG hW hol hxU hst hl h79 hF
    obtain ⟨hx, hxk⟩ := hU x hxU
    have hxl : 1 ≤ (ttx g x).length := List.length_pos_iff.mpr (wf_ne (hB.wf hx))
    have cL := kid_sum hB hx
    have hx100 := h300 x hxU
    have hnl : (tkd g x).length ≤ ((tkd g x).map (fun k => (ttx g k).length)).sum := len_sL hB (tkd g x) (fun k hk => Nat.lt_trans (hB.kids hx k hk) hx)
    obtain ⟨F', rfl⟩ : ∃ F', F = F' + 1 := ⟨F - 1, by omega⟩
    have hcount : ∀ ol' : List Nat, ol'.Nodup → (∀ y ∈ ol', y ∈ U) → x ∉ ol' → ol'.length < 100 := fun ol' h1 h2 h3 => by
      have := nodup_leG (x :: ol') U (List.nodup_cons.mpr ⟨h3, h1⟩) (fun y hy => by
        rcases List.mem_cons.mp hy with rfl | hy
        · exact hxU
        · exact h2 y hy)
      rw [List.length_cons] at this
      omega
    by_cases hm : x ∈ ol
    · obtain ⟨M1, a1, a2, a3, a4⟩ := c_arA (F := F') (st := st) hI hA hW hx (by omega) hm
      exact ⟨M1, f, ol, 1, by omega, a1, hI.row isR78 a3, hA.fc a3 (by decide) (by decide), a2, (fun y hy => by rw [List.mem_singleton.mp hy]; exact hm), fun y hy => hy, hol, a3.mono (by decide) (by decide), by omega⟩
    · by_cases hu : unA ol (tkd g x) = []
      · have hall : ∀ k ∈ tkd g x, k ∈ ol := fun k hk => by
          have := List.filter_eq_nil_iff.mp hu k hk
          simpa using this
        obtain ⟨M1, a1, a2, a3, a4, a5, a6⟩ := c_arC (F := F') (st := st) hI hA hG hW hx (by omega) hm (hcount ol hA.2.1 hol hm) (by omega) (by omega) h79 hall
        refine ⟨M1, _, ol ++ [x], 1, by omega, a1, a2, a3, a4, (fun y hy => List.mem_append_right _ hy), fun y hy => List.mem_append_left _ hy, fun y hy => ?_, a5, a6⟩
        rcases List.mem_append.mp hy with q | q
        · exact hol y q
        · rw [List.mem_singleton.mp q]; exact hxU
      · have hsub : (unA ol (tkd g x)).Sublist (tkd g x) := List.filter_sublist
        have s1 : sL g List.length (unA ol (tkd g x)) ≤ ((tkd g x).map (fun k => (ttx g k).length)).sum := sublist_sum (f := fun k => (ttx g k).length) hsub
        obtain ⟨M1, b1, b2, b3, b4⟩ := c_arB (F := F') (st := st) hI hA hG hW hx (by omega) hm (by show (tkd g x).length ≤ 300; omega) (by omega) hu
        have b2' : RW M1 78 79 (l ++ [x] ++ unA ol (tkd g x)) := b2
        obtain ⟨M2, f2, ol2, m, d1, d2, d3, d4, d5, d6, d7, d8, d9, d10⟩ := c_apile hB (fun y hy => (hU y hy).1) _ (unA ol (tkd g x)) rfl (fun y hy => ih y (hB.kids hx y (hsub.subset hy))) f M1 ol (l ++ [x]) (st + 1) F' (hI.row isR78 b3) (hA.fc b3 (by decide) (by decide)) (hG.fc b3) b2' hol (fun y hy => hxk y (hsub.subset hy)) (by omega) (by rw [List.length_append, List.length_singleton]; omega) (by omega) (by omega)
        obtain ⟨F2, hF2⟩ : ∃ F2, F' - m = F2 + 1 := ⟨F' - m - 1, by omega⟩
        have hall : ∀ k ∈ tkd g x, k ∈ ol2 := fun k hk => by
          by_cases hko : k ∈ ol
          · exact d7 k hko
          · exact d6 k (List.mem_filter.mpr ⟨hk, by simpa using hko⟩)
        have hfin : ∃ M3 f3 ol3, arL (F2 + 1) (Int32.ofNat (st + 1 + m), M2) = arL F2 (Int32.ofNat (st + 1 + m + 1), M3) ∧ TI (gtt g f3) M3 ∧ AR (gtt g f3) M3 ol3 ∧ RW M3 78 79 l ∧ x ∈ ol3 ∧ (∀ y ∈ ol2, y ∈ ol3) ∧ (∀ y ∈ ol3, y ∈ U) ∧ FC RAr FAr M2 M3 ∧ gL M3 79 ≤ 30000 := by
          by_cases hm2 : x ∈ ol2
          · obtain ⟨M3, a1, a2, a3, a4⟩ := c_arA (F := F2) (st := st + 1 + m) d3 d4 d5 hx (by omega) hm2
            exact ⟨M3, f2, ol2, a1, d3.row isR78 a3, d4.fc a3 (by decide) (by decide), a2, hm2, fun y hy => hy, d8, a3.mono (by decide) (by decide), by omega⟩
          · obtain ⟨M3, a1, a2, a3, a4, a5, a6⟩ := c_arC (F := F2) (st := st + 1 + m) d3 d4 ((hG.fc b3).fc d9) d5 hx (by omega) hm2 (hcount ol2 d4.2.1 d8 hm2) (by omega) (by omega) d10 hall
            refine ⟨M3, _, ol2 ++ [x], a1, a2, a3, a4, List.mem_append_right _ (List.mem_singleton.mpr rfl), fun y hy => List.mem_append_left _ hy, fun y hy => ?_, a5, a6⟩
            rcases List.mem_append.mp hy with q | q
            · exact d8 y q
            · rw [List.mem_singleton.mp q]; exact hxU
        obtain ⟨M3, f3, ol3, e1, e2, e3, e4, e5, e6, e7, e8, e9⟩ := hfin
        refine ⟨M3, f3, ol3, 1 + m + 1, by omega, ?_, e2, e3, e4, (fun y hy => by rw [List.mem_singleton.mp hy]; exact e5), fun y hy => e6 y (d7 y hy), e7, ((b3.mono (by decide) (by decide)).tr d9).tr e8, e9⟩
        rw [b1, d2, hF2, e1]
        congr 1
        · omega
        · congr 2
          omega
theorem mem_le_sum (w : Nat → Nat) : ∀ (l : List Nat) (k : Nat), k ∈ l → w k ≤ (l.map w).sum := by
  intro l
  induction l with
  | nil => intro k hk; cases hk
  | cons y l ih =>
    intro k hk
    rw [List.map_cons, List.sum_cons]
    rcases List.mem_cons.mp hk with rfl | hk
    · omega
    · have := ih k hk
      omega
/-- arrange: all that the term is made of, the parts ahead -/
theorem c_arrange {g : TG} {M : MS} {x : Nat} {l0 : List Nat} (hI : TI g M) (hG : GD M) (hW : RW M 78 79 l0) (h76 : gL M 76 = 100) (h79 : gL M 79 ≤ 30000) (hx : x < tU g) (hl : (ttx g x).length ≤ 100) :
    ∃ M1 f ol, m_WordCheck_arrange (Int32.ofNat x) M = some (M1, ()) ∧ TI (gtt g f) M1 ∧ AR (gtt g f) M1 ol ∧ x ∈ ol ∧ RW M1 78 79 [] ∧ gL M1 79 ≤ 30000 ∧ FC RAr FAr M M1 := by
  have hB := hI.1
  have hW0 : RW (sI M 75 3 0) 78 79 l0 := hW.fc (FC.of (Fr.stI (R := []) (F := [(75, 3)]) (by simp))) (by simp) (by decide)
  obtain ⟨c1, c2, c3⟩ := c_clear isR78 hW0
  have hf0 : FC RAr FAr M (sI M 75 3 0) := FC.of (Fr.stI (by decide))
  obtain ⟨M1, a1, a2, a3, a4⟩ := c_add (x := x) isR78 c2 ((hG.fc hf0).fc c3) (by simp)
  have hf1 : FC RAr FAr M M1 := (hf0.tr (c3.mono (by decide) (by decide))).tr (a3.mono (by decide) (by decide))
  have hI0 : TI g (sI M 75 3 0) := hI.fc (FC.of (Fr.stI (R := []) (F := [(75, 3)]) (by simp))) (fun a h1 h2 => Or.inl (by simp)) ⟨rfl, rfl⟩ (by decide) (by decide)
  have hI1 := (hI0.row isR78 c3).row isR78 a3
  have hIg : TI (gtt g (ttg g)) M1 := hI1
  have hA1 : AR (gtt g (ttg g)) M1 [] := ⟨⟨Nat.zero_le _, by rw [a3.gi (by decide), c3.gi (by decide), gI_sI, if_pos ⟨rfl, rfl⟩]; rfl, by rw [a3.gl (by decide)]; exact h76⟩, List.nodup_nil, fun j hj => absurd hj (Nat.not_lt_zero _), fun j hj => absurd hj (Nat.not_lt_zero _)⟩
  have hUl := tsb_len hB x x hx
  rw [sum_one] at hUl
  have hUm : ∀ n y, y < tU g → y ≤ x → (ttx g y).length ≤ 100 → ∀ z ∈ tsb g n y, z < tU g ∧ (ttx g z).length ≤ 100 := by
    intro n
    induction n with
    | zero => intro y hy _ h1 z hz; rw [List.mem_singleton.mp hz]; exact ⟨hy, h1⟩
    | succ n ih =>
      intro y hy hyx h1 z hz
      rcases List.mem_cons.mp hz with rfl | hz
      · exact ⟨hy, h1⟩
      · obtain ⟨k, hk, hz⟩ := List.mem_flatMap.mp hz
        have hky := hB.kids hy k hk
        have hks := kid_sum hB hy
        have hk1 : (ttx g k).length ≤ ((tkd g y).map (fun k => (ttx g k).length)).sum := by
          exact mem_le_sum (fun k => (ttx g k).length) _ k hk
        exact ih k (by omega) (by omega) (by omega) z hz
  have hmem := hUm x x hx (Nat.le_refl _) hl
  obtain ⟨M2, f2, ol2, m, d1, d2, d3, d4, d5, d6, d7, d8, d9, d10⟩ := AW_all hB (U := tsb g x x) (fun y hy => ⟨(hmem y hy).1, fun k hk => tsb_closed hB x x (Nat.le_refl _) hx y hy k hk⟩) (by omega) (fun y hy => (hmem y hy).2) x (ttg g) M1 [] [] 0 FU hIg hA1 (hG.fc hf1) a2 (fun y hy => by cases hy) (tsb_self g x x) (by omega) (by simp; omega) (by
    have e : gL (sI (sI M 75 3 0) 78 1 0) 79 = gL M 79 := rfl
    rw [e] at a4
    simp only [List.length_nil] at a4
    omega) (by unfold FU; omega)
  refine ⟨M2, f2, ol2, ?_, d3, d4, d6 x (List.mem_singleton.mpr rfl), d5, d10, hf1.tr d9⟩
  unfold m_WordCheck_arrange
  rw [Option.bind_some, c1, cal_sI, cal_some a1 a3.le.1 a3.le.2]
  refine Eq.trans (d2 : m_WordCheck_arrange_22 (0, M1) = _) ?_
  obtain ⟨F', hF'⟩ : ∃ F', FU - m = F' + 1 := ⟨FU - m - 1, by unfold FU; omega⟩
  rw [hF', arL_succ]
  unfold m_WordCheck_arrange_22b
  rw [if_neg (by rw [show (1000000 : Int32) = Int32.ofNat 1000000 from rfl, i_le_of (by omega) (by omega)]; omega), c_size isR78 d5, cal_same, if_pos (by show Int32.ofNat 0 ≤ 0; decide)]
