/-! STEP 2: the reference's has -/
/-- the pile: the parts' places, the first part's on top, and their spans -/
def HI (M : MS) (w : Int32) (n e : Nat) (ps : List (List Nat)) : Prop := match ps with
  | [] => True
  | p :: r => (gA M 122 r.length = Int32.ofNat (e - (p :: r).flatten.length) ∧ SPN M w n (e - (p :: r).flatten.length) p) ∧ HI M w n e r
theorem HI.app {M : MS} {w : Int32} {n e : Nat} : ∀ {a b : List (List Nat)}, HI M w n e (a ++ b) → HI M w n e b := by
  intro a
  induction a with
  | nil => intro b h; exact h
  | cons p a ih => intro b h; exact ih h.2
theorem HI.kid {M : MS} {w : Int32} {n e : Nat} {ks r : List (List Nat)} (h : HI M w n e (ks ++ r)) {j : Nat} {p : List Nat} (hj : ks[j]? = some p) : gA M 122 ((ks ++ r).length - 1 - j) = Int32.ofNat (e - (ks.drop j ++ r).flatten.length) ∧ SPN M w n (e - (ks.drop j ++ r).flatten.length) p := by
  have hjl := (List.getElem?_eq_some_iff.mp hj).1
  have hd : ks.drop j = p :: ks.drop (j + 1) := by
    rw [List.drop_eq_getElem_cons hjl]
    congr 1
    exact (List.getElem?_eq_some_iff.mp hj).2
  have hs : HI M w n e (ks.drop j ++ r) := by
    refine HI.app (a := ks.take j) ?_
    rw [← List.append_assoc, List.take_append_drop]
    exact h
  rw [hd, List.cons_append] at hs ⊢
  have hl : (ks ++ r).length - 1 - j = (ks.drop (j + 1) ++ r).length := by
    rw [List.length_append, List.length_append, List.length_drop]
    omega
  rw [hl]
  exact hs.1
theorem HI.fr {M M1 : MS} {w : Int32} {n e k m : Nat} (hn : n ≤ 16) (h1 : ∀ a, 17 * k + 17 ≤ a → gA M1 121 a = gA M 121 a) (h2 : ∀ i, i < m → gA M1 122 i = gA M 122 i) : ∀ {r : List (List Nat)}, r.length ≤ m → k + 1 + r.flatten.length ≤ e → HI M w n e r → HI M1 w n e r := by
  intro r
  induction r with
  | nil => intro _ _ _; exact True.intro
  | cons p r ih =>
    intro hm hk h
    have hf : (p :: r).flatten.length = p.length + r.flatten.length := by rw [List.flatten_cons, List.length_append]
    rw [List.length_cons] at hm
    refine ⟨⟨by rw [h2 _ (by omega)]; exact h.1.1, fun i hi => ?_⟩, ih (by omega) (by omega) h.2⟩
    rw [h1 _ (by omega)]
    exact h.1.2 i hi
theorem r_match {M : MS} {w : Int32} {n k x e : Nat} {ks r : List (List Nat)} (hn : n ≤ 16) (he : e ≤ 100) (hk : k + 1 + (ks ++ r).flatten.length = e) (hx : x < 1048576) (hpx : prI x) (hax : ar x = ks.length) (wks : ∀ p ∈ ks ++ r, wf p) (l21 : gL M 121 = 1700) (l22 : gL M 122 = 100) (hH : HI M w n e (ks ++ r)) :
    Ok (m_Mo_match (Int32.ofNat k) (Int32.ofNat x) (Int32.ofNat (ks ++ r).length) w (Int32.ofNat n) M) (fun r' => MJ M w n k (x :: ks.flatten) (n + 1) r'.1) := by
  have hcnt := flat_count wks
  have hlen : (ks ++ r).length = ks.length + r.length := List.length_append
  have hK : ∀ j p, ks[j]? = some p → ∃ kp, kp < 100 ∧ k < kp ∧ gA M 122 ((ks ++ r).length - 1 - j) = Int32.ofNat kp ∧ SPN M w n kp p := by
    intro j p hj
    obtain ⟨g1, g2⟩ := hH.kid hj
    have hp : 1 ≤ p.length := List.length_pos_iff.mpr (wf_ne (wks p (List.mem_append_left _ (List.mem_of_getElem? hj))))
    have hjl := (List.getElem?_eq_some_iff.mp hj).1
    have hd : ks.drop j = p :: ks.drop (j + 1) := by
      rw [List.drop_eq_getElem_cons hjl]
      congr 1
      exact (List.getElem?_eq_some_iff.mp hj).2
    have h1 : 1 ≤ (ks.drop j ++ r).flatten.length := by
      rw [hd, List.cons_append, List.flatten_cons, List.length_append]
      omega
    have h2 : (ks.drop j ++ r).flatten.length ≤ (ks ++ r).flatten.length := by
      have : (ks ++ r).flatten = (ks.take j).flatten ++ (ks.drop j ++ r).flatten := by rw [← List.flatten_append, ← List.append_assoc, List.take_append_drop]
      rw [this, List.length_append]
      omega
    exact ⟨_, by omega, by omega, g1, g2⟩
  have hw : ∀ p ∈ ks, wf p := fun p hp => wks p (List.mem_append_left _ hp)
  unfold m_Mo_match
  rw [i_17]
  by_cases h0 : (ks ++ r).length = 0
  · have hks : ks = [] := List.length_eq_zero_iff.mp (by omega)
    rw [if_pos (by rw [h0]; decide)]
    unfold m_Mo_match_25
    rw [if_pos (by rw [h0]; decide)]
    exact r_match52 hn (by omega) hx hpx hax hw (by omega) (by omega) l21 l22 hK (fun p hp => by rw [hks] at hp; simp at hp) (fun p hp => by rw [hks] at hp; simp at hp)
  · rw [if_neg (by rw [i_le, i_of (by omega), i_0]; omega), i_pred (by omega) (by omega), ld_of (by omega) (by omega), Option.bind_some]
    have h7 : ∀ p, ks[0]? = some p → ∃ kp, kp < 100 ∧ k < kp ∧ (17 : Int32) * gA M 122 ((ks ++ r).length - 1) = Int32.ofNat (17 * kp) ∧ SPN M w n kp p := fun p hp => by
      obtain ⟨kp, g1, g2, g3, g4⟩ := hK 0 p hp
      rw [Nat.sub_zero] at g3
      exact ⟨kp, g1, g2, by rw [g3, i_17], g4⟩
    unfold m_Mo_match_25
    by_cases h1 : (ks ++ r).length = 1
    · rw [if_pos (by rw [h1]; decide)]
      exact r_match52 hn (by omega) hx hpx hax hw (by omega) (by omega) l21 l22 hK h7 (fun p hp => by
        have := (List.getElem?_eq_some_iff.mp hp).1
        omega)
    · rw [if_neg (by rw [i_le, i_of (by omega), i_1]; omega), show Int32.ofNat (ks ++ r).length - 2 = Int32.ofNat ((ks ++ r).length - 2) from i_sub_of (b := 2) (by omega) (by omega), ld_of (by omega) (by omega), Option.bind_some]
      exact r_match52 hn (by omega) hx hpx hax hw (by omega) (by omega) l21 l22 hK h7 (fun p hp => by
        obtain ⟨kp, g1, g2, g3, g4⟩ := hK 1 p hp
        exact ⟨kp, g1, g2, by rw [show (ks ++ r).length - 2 = (ks ++ r).length - 1 - 1 by omega, g3, i_17], g4⟩)
theorem r_has58s {M : MS} {k58 : Int32 × Int32 × Int32 × Int32 × Int32 × MS → Option (MS × Int32)} {w : Int32} {n k x a e : Nat} {ks r : List (List Nat)} (ha : a < 16) (hn : n ≤ 16) (he : e ≤ 100) (hk : k + 1 + (ks ++ r).flatten.length = e) (hx : x < 1048576) (hpx : prI x) (hax : ar x = ks.length) (wks : ∀ p ∈ ks ++ r, wf p) (l98 : gL M 98 = 1600) (l21 : gL M 121 = 1700) (l22 : gL M 122 = 100) (hH : HI M w n e (ks ++ r)) (hxA : gA M 98 (100 * a + k) = Int32.ofNat x) :
    ∃ M1, m_Mo_has_58b k58 (Int32.ofNat a) w (Int32.ofNat n) (Int32.ofNat (ks ++ r).length) (Int32.ofNat k) M = k58 (Int32.ofNat a, w, Int32.ofNat n, Int32.ofNat (r.length + 1), Int32.ofNat k + -1, M1) ∧ HI M1 w n e ((x :: ks.flatten) :: r) ∧ Fr [121, 122] [] M M1 := by
  have hcnt := flat_count wks
  have hlen : (ks ++ r).length = ks.length + r.length := List.length_append
  obtain ⟨r', m1, m2, m3, m4⟩ := r_match (M := M) hn he hk hx hpx hax wks l21 l22 hH
  have hln := m4.ln
  refine ⟨sA r'.1 122 r.length (Int32.ofNat k), ?_, ⟨⟨?_, fun i hi => ?_⟩, ?_⟩, (m4.mono (by decide) (by decide)).tr (Fr.stA (by decide))⟩
  · unfold m_Mo_has_58b
    rw [if_neg (by rw [i_lt, i_of (by omega), i_0]; omega), show (100 : Int32) = Int32.ofNat 100 from rfl, i_mul_of, i_add_of, ld_of (by omega) (by omega), hxA, Option.bind_some, cal_some m1 m4.le.1 m4.le.2, r_arity hx, cal_same, hax]
    have e1 : Int32.ofNat (ks ++ r).length - Int32.ofNat ks.length = Int32.ofNat r.length := by
      rw [i_sub_of (by omega) (by omega)]
      congr 1
      omega
    rw [e1, st_of (by show _ < gL r'.1 122; rw [hln]; omega) (by omega), Option.bind_some, i_inc]
  · rw [gA_sA, if_pos ⟨rfl, rfl⟩]
    congr 1
    rw [List.flatten_cons, List.length_append, List.length_cons]
    rw [List.flatten_append, List.length_append] at hk
    omega
  · have hpos : e - ((x :: ks.flatten) :: r).flatten.length = k := by
      rw [List.flatten_cons, List.length_append, List.length_cons]
      rw [List.flatten_append, List.length_append] at hk
      omega
    rw [hpos, gA_sA, if_neg (by omega)]
    exact m2 i (by omega)
  · refine HI.fr (M := M) (k := k) (m := r.length) hn (fun b hb => ?_) (fun i hi => ?_) (Nat.le_refl _) ?_ hH.app
    · rw [gA_sA, if_neg (by omega)]
      exact m3 b (Or.inr hb)
    · rw [gA_sA, if_neg (by omega), m4.ga (by decide)]
    · rw [List.flatten_append, List.length_append] at hk
      omega
def HsV (t : List Nat) (w : Int32) (n : Nat) (v : Int32) : Prop := ∃ b : Bool, v = b01 b ∧ (b = true ↔ sp w n t 0 n)
theorem HsV.one {t : List Nat} {w : Int32} {n : Nat} {v v' : Int32} (h : HsV t w n v) (h2 : HsV t w n v') : v = v' := by
  obtain ⟨b, b1, b2⟩ := h
  obtain ⟨c, c1, c2⟩ := h2
  have := b2.trans c2.symm
  have : b = c := by
    cases b <;> cases c
    · rfl
    · exact this.mpr rfl
    · exact (this.mp rfl).symm
    · rfl
  rw [b1, c1, this]
theorem r_has58 {w : Int32} {n a e : Nat} {t : List Nat} (ha : a < 16) (hn : n ≤ 16) (ht : okT t) (he : e = t.length) : ∀ (m : Nat) (u : List Nat) (ps : List (List Nat)) (M : MS) (F : Nat), u.length = m → t = u ++ ps.flatten → (∀ p ∈ ps, wf p) → gL M 98 = 1600 → gL M 121 = 1700 → gL M 122 = 100 → HI M w n e ps → At M 98 (100 * a) t → m < F →
    ∃ M1 v, fx (fun (k : Int32 × Int32 × Int32 × Int32 × Int32 × MS → Option (MS × Int32)) (i : Int32 × Int32 × Int32 × Int32 × Int32 × MS) => m_Mo_has_58b k i.1 i.2.1 i.2.2.1 i.2.2.2.1 i.2.2.2.2.1 i.2.2.2.2.2) F (Int32.ofNat a, w, Int32.ofNat n, Int32.ofNat ps.length, Int32.ofNat m + -1, M) = some (M1, v) ∧ HsV t w n v ∧ Fr [121, 122] [] M M1 := by
  have htl := ht.2.2
  intro m
  induction m with
  | zero =>
    intro u ps M F hu hE hw l98 l21 l22 hH hA hF
    obtain rfl := List.length_eq_zero_iff.mp hu
    rw [List.nil_append] at hE
    have h1 := cn_flat hw
    rw [← hE] at h1
    have h2 : cn t = some 1 := ht.1
    rw [h2] at h1
    simp only [Option.some.injEq] at h1
    match ps, h1 with
    | [p], _ =>
      have hp : p = t := by simpa using hE.symm
      subst hp
      obtain ⟨⟨-, hS⟩, -⟩ := hH
      have hpos : e - [p].flatten.length = 0 := by simp; omega
      rw [hpos] at hS
      have hM := hS 0 (by omega)
      rw [show 17 * 0 + 0 = 0 from rfl] at hM
      have hbit := hM.bit (m := n) (by omega)
      cases F with
      | zero => omega
      | succ F =>
        have go : ∀ k58, ∃ v, m_Mo_has_58b k58 (Int32.ofNat a) w (Int32.ofNat n) (Int32.ofNat [p].length) (Int32.ofNat 0 + -1) M = some (M, v) ∧ HsV p w n v := by
          intro k58
          unfold m_Mo_has_58b m_Mo_has_117
          rw [if_pos (show Int32.ofNat 0 + -1 < 0 by decide), show ldA M 121 (0 : Int32) = some (gA M 121 0) from ld_of (i := 0) (by omega) (by omega), Option.bind_some]
          by_cases hb : sp w n p 0 n
          · rw [if_neg (fun q => q (hbit.mpr hb))]
            exact ⟨1, rfl, true, rfl, fun _ => hb, fun _ => rfl⟩
          · rw [if_pos (fun q => hb (hbit.mp q))]
            exact ⟨0, rfl, false, rfl, (fun h => by cases h), fun h => absurd h hb⟩
        obtain ⟨v, v1, v2⟩ := go (fx (fun (k : Int32 × Int32 × Int32 × Int32 × Int32 × MS → Option (MS × Int32)) (i : Int32 × Int32 × Int32 × Int32 × Int32 × MS) => m_Mo_has_58b k i.1 i.2.1 i.2.2.1 i.2.2.2.1 i.2.2.2.2.1 i.2.2.2.2.2) F)
        exact ⟨M, v, v1, v2, Fr.rf⟩
  | succ m ih =>
    intro u ps M F hu hE hw l98 l21 l22 hH hA hF
    rcases List.eq_nil_or_concat u with rfl | ⟨u', x, rfl⟩
    · simp at hu
    rw [List.concat_eq_append] at *
    rw [List.length_append, List.length_singleton] at hu
    have hE2 : t = u' ++ x :: ps.flatten := by rw [hE, List.append_assoc]; rfl
    have hcn : cn (u' ++ x :: ps.flatten) = some 1 := by rw [← hE2]; exact ht.1
    obtain ⟨m', hm⟩ := cn_suf hcn
    rw [cn_cons, cn_flat hw] at hm
    simp only [Option.bind_some] at hm
    have har : ar x ≤ ps.length := Classical.byContradiction (fun q => by rw [if_neg q] at hm; cases hm)
    have hsp : ps.take (ar x) ++ ps.drop (ar x) = ps := List.take_append_drop _ _
    have hkl : ar x = (ps.take (ar x)).length := by rw [List.length_take]; omega
    have hpx : prI x := ht.2.1 x (by rw [hE2]; simp)
    have hxs : x < 1048576 := ht.sm x (by rw [hE2]; simp)
    have hlt := congrArg List.length hE2
    rw [List.length_append, List.length_cons] at hlt
    have hA2 := hA
    rw [hE2] at hA2
    obtain ⟨g1, g2⟩ := hA2.get
    have hu2 : u'.length = m := by omega
    rw [hu2] at g1 g2
    cases F with
    | zero => omega
    | succ F =>
      obtain ⟨M2, w1, w2, w3⟩ := r_has58s (M := M) (k58 := fx (fun (k : Int32 × Int32 × Int32 × Int32 × Int32 × MS → Option (MS × Int32)) (i : Int32 × Int32 × Int32 × Int32 × Int32 × MS) => m_Mo_has_58b k i.1 i.2.1 i.2.2.1 i.2.2.2.1 i.2.2.2.2.1 i.2.2.2.2.2) F) (w := w) (n := n) (k := m) (x := x) (a := a) (e := e) (ks := ps.take (ar x)) (r := ps.drop (ar x)) ha hn (by omega) (by rw [hsp]; omega) hxs hpx hkl (by rw [hsp]; exact hw) l98 l21 l22 (by rw [hsp]; exact hH) g1
      rw [hsp] at w1
      have hwk : ∀ p ∈ ps.take (ar x), wf p := fun p hp => hw p (List.mem_of_mem_take hp)
      obtain ⟨M3, v, v1, v2, v3⟩ := ih u' ((x :: (ps.take (ar x)).flatten) :: ps.drop (ar x)) M2 F hu2 (by
        rw [List.flatten_cons, List.cons_append, ← List.flatten_append, hsp]
        exact hE2) (fun p hp => by
        rcases List.mem_cons.mp hp with rfl | hp
        · exact wf_mk hkl hwk
        · exact hw p (List.mem_of_mem_drop hp)) (by rw [w3.ln]; exact l98) (by rw [w3.ln]; exact l21) (by rw [w3.ln]; exact l22) w2 (hA.fr w3 (by decide)) (by omega)
      refine ⟨M3, v, ?_, v2, w3.tr v3⟩
      refine Eq.trans ?_ v1
      have e1 : Int32.ofNat (m + 1) + -1 = Int32.ofNat m := by rw [i_dec (by omega) (by omega), Nat.add_sub_cancel]
      rw [e1]
      exact w1
theorem r_has_bad1 {S : Nat → List Nat} {W : Option (List Nat)} {M : MS} {a b c : Int32} (hI : RI S W M) (h : slB a = false) : RA S W M (m_Mo_has a b c M) 0 1 := by
  have e : m_Mo_has a b c M = some (sI M 97 0 1, 0) := by
    simp only [m_Mo_has, m_Mo_has_17, m_Mo_has_36, m_Mo_has_37, r_isSlot, cal_same, h, b01_f, i10, not_true_eq_false, if_false, if_true, r_fail1, cal_sI]
  rw [e]
  exact RA.fail hI _ _
theorem r_has_bad2 {S : Nat → List Nat} {W : Option (List Nat)} {M : MS} {a b c : Int32} (hI : RI S W M) (h : slB a = true) (hc : c.toInt < 0 ∨ 16 < c.toInt) : RA S W M (m_Mo_has a b c M) 0 2 := by
  have e : m_Mo_has a b c M = some (sI M 97 0 2, 0) := by
    by_cases h4 : c < 0
    · simp only [m_Mo_has, m_Mo_has_17, m_Mo_has_32, m_Mo_has_37, r_isSlot, cal_same, h, h4, b01_t, i10, not_false_eq_true, if_false, if_true, r_fail2, cal_sI]
    · have h5 : ¬ c ≤ 16 := by
        rw [i_lt, i_0] at h4
        rw [i_le, i_16]
        omega
      simp only [m_Mo_has, m_Mo_has_17, m_Mo_has_32, m_Mo_has_37, r_isSlot, cal_same, h, h4, h5, b01_t, i10, not_false_eq_true, if_false, if_true, r_fail2, cal_sI]
  rw [e]
  exact RA.fail hI _ _
theorem r_has {S : Nat → List Nat} {W : Option (List Nat)} {M : MS} {w : Int32} {a n : Nat} (hI : RI S W M) (ha : a < 16) (hn : n ≤ 16) : RX S W M (m_Mo_has (Int32.ofNat a) w (Int32.ofNat n) M) (HsV (S a) w n) := by
  have n1 : ¬ Int32.ofNat n < 0 := by rw [i_lt, i_of (by omega), i_0]; omega
  have n2 : Int32.ofNat n ≤ 16 := by rw [i_le, i_of (by omega), i_16]; omega
  have e : m_Mo_has (Int32.ofNat a) w (Int32.ofNat n) M = m_Mo_has_37 (Int32.ofNat a) w (Int32.ofNat n) 0 0 M := by
    simp only [m_Mo_has, m_Mo_has_17, m_Mo_has_36, r_isSlot, cal_same, slB_nat ha, n1, n2, b01_t, i10, not_false_eq_true, if_true, if_false]
  rw [e]
  unfold m_Mo_has_37
  rw [r_fail0, cal_sI, if_pos (by show (0 : Int32) = 0; decide)]
  have hI0 := hI.thr 0
  have hth : gI (sI M 97 0 0) 97 0 = 0 := by rw [gI_sI, if_pos ⟨rfl, rfl⟩]
  have hF0 : FrR M (sI M 97 0 0) := FrR.thr 0
  generalize sI M 97 0 0 = M1 at hI0 hth hF0
  obtain ⟨hL, hSl, hWt⟩ := id hI0
  obtain ⟨a1, a2, a3⟩ := hSl a ha
  have al := a3.2.2
  have al1 : 1 ≤ (S a).length := List.length_pos_iff.mpr (wf_ne a3.1)
  obtain ⟨-, ⟨l8, l9⟩, -, ⟨-, -, -, -, -, l21, l22⟩⟩ := hL
  rw [ld_of (by show _ < gL M1 99; omega) (by omega), Option.bind_some, a2]
  obtain ⟨M2, v, v1, v2, v3⟩ := r_has58 (w := w) (n := n) (a := a) (e := (S a).length) (t := S a) ha hn a3 rfl (S a).length (S a) [] M1 FU rfl (by simp) (fun p hp => by cases hp) l8 l21 l22 True.intro a1 (by unfold FU; omega)
  rw [i_dec (by omega) (by omega)] at v1
  rw [i_pred (by omega) (by omega)]
  have v1' : m_Mo_has_58 (Int32.ofNat a, w, Int32.ofNat n, 0, Int32.ofNat ((S a).length - 1), M1) = some (M2, v) := v1
  rw [v1']
  exact ⟨v, ⟨M2, rfl, hI0.fr v3 (by decide) (by decide) (by decide) (by decide), hF0.tr (v3.toR (by decide) (by decide)), by rw [v3.gi (by decide)]; exact hth⟩, v2⟩
