/-! STEP 2: the reference's derived -/
theorem cn_suf {v : List Nat} : ∀ {u : List Nat} {n : Nat}, cn (u ++ v) = some n → ∃ m, cn v = some m := by
  intro u
  induction u with
  | nil => intro n h; exact ⟨n, h⟩
  | cons x u ih =>
    intro n h
    rw [List.cons_append, cn_cons] at h
    cases hc : cn (u ++ v) with
    | none => rw [hc] at h; cases h
    | some k => exact ih hc
theorem cn_flat {ps : List (List Nat)} (h : ∀ p ∈ ps, wf p) : cn ps.flatten = some ps.length := by
  induction ps with
  | nil => rfl
  | cons p ps ih =>
    rw [List.flatten_cons, cn_app (h p List.mem_cons_self) (ih (fun q hq => h q (List.mem_cons_of_mem _ hq))), List.length_cons, Nat.add_comm]
theorem it_shr_c {x c : Nat} (h : x < 2147483648) (hc : c < 4) : Int32.ofNat x >>> (Int32.ofNat c &&& 31) = Int32.ofNat (x / 2 ^ c) := by
  have hd : x / 2 ^ c ≤ x := Nat.div_le_self _ _
  apply Int32.toInt_inj.mp
  rw [i_of (show x / 2 ^ c < 2147483648 by omega)]
  have e : (Int32.ofNat x >>> (Int32.ofNat c &&& 31)).toInt = (Int32.ofNat x).toInt >>> c := by
    rcases (show c = 0 ∨ c = 1 ∨ c = 2 ∨ c = 3 by omega) with rfl | rfl | rfl | rfl <;>
    · show ((Int32.ofNat x).toBitVec.sshiftRight _).toInt = _
      rw [BitVec.toInt_sshiftRight]
      rfl
  rw [e, i_of h, Int.shiftRight_eq_div_pow]
  rfl
/-- derived, one item: its parts leave the stack, the term with the item at its head comes -/
theorem r_step {M : MS} {k : Nat × Int32 × Int32 × Int32 × MS → Option (MS × Int32)} {c e l1 at0 x : Nat} {u : List Nat} {ks r : List (List Nat)} (hl1 : l1 = 98 ∨ l1 = 108) (hc : c < 4) (hL : RL (gL M)) (hD : DInv M c e (ks ++ r)) (hn : ar x = ks.length) (hx : prI x) (wZ : ∀ p ∈ ks ++ r, wf p) (pZ : ∀ p ∈ ks ++ r, pr p) (hA : At M l1 at0 (u ++ x :: (ks ++ r).flatten)) (he : e = at0 + (u ++ x :: (ks ++ r).flatten).length) (he2 : e < 1000000) (hlen : (u ++ x :: (ks ++ r).flatten).length ≤ 300) :
    ∃ M2, m_Mo_derived_15b k l1 (Int32.ofNat at0) (Int32.ofNat c) (Int32.ofNat u.length) M = k (l1, Int32.ofNat at0, Int32.ofNat c, Int32.ofNat u.length + -1, M2) ∧ DInv M2 c e ((x :: ks.flatten) :: r) ∧ Fr RD FD M M2 := by
  obtain ⟨g1, g2⟩ := hA.get
  have hlx : (u ++ x :: (ks ++ r).flatten).length = u.length + (1 + (ks.flatten.length + r.flatten.length)) := by
    rw [List.length_append, List.length_cons, List.flatten_append, List.length_append]
    omega
  rw [hlx] at he hlen
  have hcnt := flat_count wZ
  rw [List.flatten_append, List.length_append, List.length_append] at hcnt
  have hxs : x < 1048576 := by
    rcases hx with h | h | h
    · omega
    · rw [ar_n h.1] at hn
      omega
    · omega
  have hm : x % 8 < 8 := Nat.mod_lt _ (by omega)
  have wks : ∀ p ∈ ks, wf p := fun p hp => wZ p (List.mem_append_left _ hp)
  have wr' : ∀ p ∈ r, wf p := fun p hp => wZ p (List.mem_append_right _ hp)
  have hL0 := hL
  obtain ⟨l0, l01, ⟨l2, l3, l4, l5⟩, l6, l7⟩ := hL0
  have hfZ := fO_le (c := c) wZ (by rw [List.flatten_append, List.length_append]; omega)
  rw [fO_app] at hfZ
  obtain ⟨hS, h9, h10⟩ := hD
  have hlD := DS_len (c := c) (x :: ks.flatten) (wf_mk hn wks)
  have hlD2 : (x :: ks.flatten).length * ((x :: ks.flatten).length + 3) ≤ 300 * 303 := Nat.mul_le_mul (by rw [List.length_cons]; omega) (by rw [List.length_cons]; omega)
  unfold m_Mo_derived_15b m_Mo_sort
  rw [if_neg (by rw [i_lt, i_of (by omega), i_0]; omega), i_add_of, ld_of g2 (by omega), g1]
  simp only [Option.bind_some]
  rw [cal_same]
  simp only [it_and]
  rw [show (3 : Int32) = Int32.ofNat 3 from rfl]
  by_cases c0 : x % 8 < 3
  · -- a term without parts
    have hks : ks = [] := by
      rw [ar_0 c0] at hn
      exact List.length_eq_zero_iff.mp hn.symm
    subst hks
    simp only [List.nil_append, List.flatten_nil, List.length_nil, Nat.zero_add] at hS h9 h10 hlx he hlen hfZ hcnt ⊢
    have hDS := DS_leaf (c := c) c0
    have hNS : NS [x] = decide (x = 1) := by
      have := NS_mk (x := x) (ps := []) hn (fun p hp => by cases hp)
      simp only [List.flatten_nil] at this
      rw [this]
      rcases hx with h | h | h
      · rw [if_neg (by omega), if_neg (by omega), if_neg (by omega), if_neg (by omega)]
        simp; omega
      · omega
      · by_cases h1 : x = 1
        · subst h1; rfl
        · rw [if_neg (by omega), if_neg (by omega), if_neg (by omega), if_neg (by omega)]
          simp [h1]
    have hput : ∀ b : Nat, DS c [x] = [b] → ∃ M2, m_Mo_derived_69 k l1 (Int32.ofNat at0) (Int32.ofNat c) (Int32.ofNat u.length) (Int32.ofNat x) 0 (Int32.ofNat b) M = k (l1, Int32.ofNat at0, Int32.ofNat c, Int32.ofNat u.length + -1, M2) ∧ DInv M2 c e ([x] :: r) ∧ Fr RD FD M M2 := by
      intro b hb
      have hfr : Fr [101, 106, 107] [(97, 9), (97, 10), (97, 13)] M (sA M 101 0 (Int32.ofNat b)) := Fr.stA (by decide)
      have e0 : Int32.ofNat at0 + Int32.ofNat u.length + 1 = Int32.ofNat (e - r.flatten.length) := by
        rw [i_add_of, i_inc]
        congr 1
        omega
      have hAt : At (sA M 101 0 (Int32.ofNat b)) 101 0 (DS c [x]) := by
        rw [hb]
        refine ⟨by show 0 + 1 ≤ gL M 101; omega, fun j hj => ?_⟩
        have hj2 : j < 1 := hj
        have : j = 0 := by omega
        subst this
        rw [gA_sA, if_pos ⟨rfl, rfl⟩]
        rfl
      obtain ⟨M2, w1, w2, w3⟩ := d_place (M := sA M 101 0 (Int32.ofNat b)) (c := c) (e := e) (p := [x]) (r := r) (l3 := Int32.ofNat (e - r.flatten.length)) (l4 := b01 (NS [x])) hL (SI.df (DF.of hfr) (Nat.le_refl _) hS) (h9) hAt (by rw [hb]; simp only [List.length_singleton]; omega) (by omega) rfl rfl
      rw [hb] at w1
      refine ⟨M2, ?_, w2, (hfr.mono (by decide) (by decide)).tr w3⟩
      have h10' : gI (sA M 101 0 (Int32.ofNat b)) 97 10 = Int32.ofNat (fO c r) := h10
      unfold m_Mo_derived_69
      rw [show (0 : Int32) = Int32.ofNat 0 from rfl, st_of (by omega) (by omega)]
      simp only [Option.bind_some]
      rw [h10', e0]
      unfold m_Mo_derived_93
      by_cases h1 : x = 1
      · have hw : m_Mo_place (Int32.ofNat (fO c r)) (1 : Int32) (Int32.ofNat (e - r.flatten.length)) (1 : Int32) (sA M 101 0 (Int32.ofNat b)) = some (M2, ()) := by
          rw [hNS, decide_eq_true h1] at w1
          exact w1
        rw [if_neg (by rw [h1]; decide), cal_some hw w3.le.1 w3.le.2]
      · have hw : m_Mo_place (Int32.ofNat (fO c r)) (1 : Int32) (Int32.ofNat (e - r.flatten.length)) (0 : Int32) (sA M 101 0 (Int32.ofNat b)) = some (M2, ()) := by
          rw [hNS, decide_eq_false h1] at w1
          exact w1
        rw [if_pos (by rw [show (1 : Int32) = Int32.ofNat 1 from rfl, i_eq_of (by omega) (by omega)]; exact h1)]
        exact (cal_some hw w3.le.1 w3.le.2)
    rw [if_neg (by rw [i_le_of (by omega) (by omega)]; omega), cal_same]
    by_cases c2 : x % 8 = 2
    · rw [if_neg (by rw [c2]; show ¬ ¬ Int32.ofNat 2 = 2; decide), show Int32.ofNat 3 = (3 : Int32) from rfl, it_shr (by omega), it_shr_c (by omega) hc, show (1 : Int32) = Int32.ofNat 1 from rfl, i_and_of, Nat.and_one_is_mod]
      have hq : x / 8 / 2 ^ c % 2 < 2 := Nat.mod_lt _ (by omega)
      by_cases hb : x / 8 / 2 ^ c % 2 = 1
      · rw [if_neg (by rw [hb]; simp)]
        exact hput 1 (by rw [hDS, if_pos ⟨c2, hb⟩])
      · rw [if_pos (by rw [i_eq_of (by omega) (by omega)]; exact hb)]
        exact hput 0 (by rw [hDS, if_neg (fun q => hb q.2)])
    · rw [if_pos (by rw [show (2 : Int32) = Int32.ofNat 2 from rfl, i_eq_of (by omega) (by omega)]; exact c2)]
      exact hput 0 (by rw [hDS, if_neg (fun q => c2 q.1)])
  · rw [if_pos (by rw [i_le_of (by omega) (by omega)]; omega), cal_same, show (6 : Int32) = Int32.ofNat 6 from rfl, show (7 : Int32) = Int32.ofNat 7 from rfl]
    by_cases c6 : x % 8 = 6
    · -- NOT
      have hx6 : x = 6 := by rcases hx with h | h | h <;> omega
      subst hx6
      rw [if_neg (by show ¬ ¬ Int32.ofNat (6 % 8) = Int32.ofNat 6; decide)]
      match ks, hn with
      | [a], hn =>
        have wa := wZ a (by simp)
        have pa := pZ a (by simp)
        simp only [List.cons_append, List.nil_append, List.flatten_cons, List.flatten_nil, List.append_nil, List.length_cons] at hS h9 h10 hlx he hlen hfZ hlD hlD2 hcnt ⊢
        obtain ⟨⟨a1, a2, a3, a4, a5⟩, hSr⟩ := hS
        have hDS := DS_not (c := c) (x := 6) wa rfl
        have hNS : NS (6 :: a) = !(NS a) := by
          have := NS_mk (x := 6) (ps := [a]) rfl (fun p hp => by rw [List.mem_singleton.mp hp]; exact wa)
          simpa using this
        have hfa : fO c [a] = (DS c a).length := by rw [fO_cons]; rfl
        rw [hfa] at hfZ
        rw [h9, i_pred (by omega) (by omega), Nat.add_sub_cancel]
        have e9 : gI (sI M 97 9 (Int32.ofNat r.length)) 97 9 = Int32.ofNat r.length := by rw [gI_sI, if_pos ⟨rfl, rfl⟩]
        have hfr : Fr [101, 106, 107] [(97, 9), (97, 10), (97, 13)] M (sI M 97 9 (Int32.ofNat r.length)) := Fr.stI (by decide)
        rw [e9, ld_of (by show _ < gL M 102; omega) (by omega)]
        simp only [Option.bind_some]
        rw [ld_of (by show _ < gL M 103; omega) (by omega)]
        simp only [Option.bind_some, gA_sI]
        rw [a1, a2, r_not (M := sI M 97 9 (Int32.ofNat r.length)) (wf_DS a wa) (sm_DS wa pa (by omega)) a5 (by show _ ≤ gL M 101; omega) (by omega), cal_wr]
        rw [← hDS]
        have hfr2 : Fr [101, 106, 107] [(97, 9), (97, 10), (97, 13)] M (wr (sI M 97 9 (Int32.ofNat r.length)) 101 0 (DS c (6 :: a))) := hfr.tr (Fr.wr (by decide))
        have e92 : gI (wr (sI M 97 9 (Int32.ofNat r.length)) 101 0 (DS c (6 :: a))) 97 9 = Int32.ofNat r.length := e9
        rw [e92, ld_of (by show _ < gL M 104; omega) (by omega), show gA (wr (sI M 97 9 (Int32.ofNat r.length)) 101 0 (DS c (6 :: a))) 104 r.length = Int32.ofNat (e - r.flatten.length) by rw [hfr2.ga (by decide)]; exact a3]
        simp only [Option.bind_some]
        rw [ld_of (by show _ < gL M 105; omega) (by omega), show gA (wr (sI M 97 9 (Int32.ofNat r.length)) 101 0 (DS c (6 :: a))) 105 r.length = b01 (NS a) by rw [hfr2.ga (by decide)]; exact a4]
        simp only [Option.bind_some]
        obtain ⟨M2, w1, w2, w3⟩ := d_place (M := wr (sI M 97 9 (Int32.ofNat r.length)) 101 0 (DS c (6 :: a))) (c := c) (e := e) (p := 6 :: a) (r := r) (l3 := Int32.ofNat (e - r.flatten.length)) (l4 := b01 (NS (6 :: a))) hL (SI.df (DF.of hfr2) (Nat.le_refl _) hSr) e92 (At_wr0 l01 (by omega)) (by omega) (by omega) rfl rfl
        refine ⟨M2, ?_, w2, (hfr2.mono (by decide) (by decide)).tr w3⟩
        unfold m_Mo_derived_177
        rw [hNS] at w1
        cases hna : NS a with
        | true =>
          rw [hna] at w1
          rw [if_pos (by decide)]
          exact cal_some w1 w3.le.1 w3.le.2
        | false =>
          rw [hna] at w1
          rw [if_neg (by decide)]
          exact cal_some w1 w3.le.1 w3.le.2
    · rw [if_pos (by rw [i_eq_of (by omega) (by omega)]; exact c6), cal_same]
      by_cases c7 : x % 8 = 7
      · -- STAR
        have hx7 : x = 7 := by rcases hx with h | h | h <;> omega
        subst hx7
        rw [if_neg (by show ¬ ¬ Int32.ofNat (7 % 8) = Int32.ofNat 7; decide)]
        match ks, hn with
        | [a], hn =>
          have wa := wZ a (by simp)
          have pa := pZ a (by simp)
          simp only [List.cons_append, List.nil_append, List.flatten_cons, List.flatten_nil, List.append_nil, List.length_cons] at hS h9 h10 hlx he hlen hfZ hlD hlD2 hcnt hA ⊢
          obtain ⟨⟨a1, a2, a3, a4, a5⟩, hSr⟩ := hS
          have hDS := DS_star (c := c) (x := 7) wa rfl
          have hNS : NS (7 :: a) = true := by
            have := NS_mk (x := 7) (ps := [a]) rfl (fun p hp => by rw [List.mem_singleton.mp hp]; exact wa)
            simpa using this
          have hfa : fO c [a] = (DS c a).length := by rw [fO_cons]; rfl
          rw [hfa] at hfZ
          have w7 : wf (7 :: a) := wf_un rfl wa
          have p7 : pr (7 :: a) := pr_cons prI_7 pa
          rw [h9, i_pred (by omega) (by omega), Nat.add_sub_cancel]
          have e9 : gI (sI M 97 9 (Int32.ofNat r.length)) 97 9 = Int32.ofNat r.length := by rw [gI_sI, if_pos ⟨rfl, rfl⟩]
          have hfr : Fr [101, 106, 107] [(97, 9), (97, 10), (97, 13)] M (sI M 97 9 (Int32.ofNat r.length)) := Fr.stI (by decide)
          have hk : x_kd l1 = 20 := by rcases hl1 with rfl | rfl <;> decide
          have hk1 : l1 ≠ 101 := by rcases hl1 with rfl | rfl <;> decide
          rw [e9, ld_of (by show _ < gL M 102; omega) (by omega)]
          simp only [Option.bind_some]
          rw [ld_of (by show _ < gL M 103; omega) (by omega)]
          simp only [Option.bind_some]
          rw [ld_of (by show _ < gL M 104; omega) (by omega)]
          simp only [Option.bind_some, gA_sI]
          have e8 : Int32.ofNat (e - r.flatten.length) - Int32.ofNat at0 - Int32.ofNat u.length = Int32.ofNat (7 :: a).length := by
            rw [i_sub_of (by omega) (by omega), i_sub_of (by omega) (by omega), List.length_cons]
            congr 1
            omega
          have hB : At (sI M 97 9 (Int32.ofNat r.length)) l1 (at0 + u.length) (7 :: a) := by
            have := hA.app.2
            rw [← List.cons_append] at this
            exact this.app.1
          rw [a1, a2, a3, e8, r_cat (M := sI M 97 9 (Int32.ofNat r.length)) (l1 := 100) (l4 := l1) (by decide) hk (by decide) hk1 (wf_DS a wa) w7 (sm_DS wa pa (by omega)) (sm_wf w7 p7 (by rw [List.length_cons]; omega)) (pr_3 (pr_DS a wa pa)) a5 hB (by show _ ≤ gL M 101; rw [List.length_cons]; omega) (by omega) (by rw [List.length_cons]; omega) (by rw [List.length_cons]; omega), cal_wr]
          rw [← hDS]
          have hfr2 : Fr [101, 106, 107] [(97, 9), (97, 10), (97, 13)] M (wr (sI M 97 9 (Int32.ofNat r.length)) 101 0 (DS c (7 :: a))) := hfr.tr (Fr.wr (by decide))
          have e92 : gI (wr (sI M 97 9 (Int32.ofNat r.length)) 101 0 (DS c (7 :: a))) 97 9 = Int32.ofNat r.length := e9
          rw [e92, ld_of (by show _ < gL M 104; omega) (by omega), show gA (wr (sI M 97 9 (Int32.ofNat r.length)) 101 0 (DS c (7 :: a))) 104 r.length = Int32.ofNat (e - r.flatten.length) by rw [hfr2.ga (by decide)]; exact a3]
          simp only [Option.bind_some]
          obtain ⟨M2, w1, w2, w3⟩ := d_place (M := wr (sI M 97 9 (Int32.ofNat r.length)) 101 0 (DS c (7 :: a))) (c := c) (e := e) (p := 7 :: a) (r := r) (l3 := Int32.ofNat (e - r.flatten.length)) (l4 := 1) hL (SI.df (DF.of hfr2) (Nat.le_refl _) hSr) e92 (At_wr0 l01 (by omega)) (by omega) (by omega) rfl (by rw [hNS]; rfl)
          refine ⟨M2, ?_, w2, (hfr2.mono (by decide) (by decide)).tr w3⟩
          exact cal_some w1 w3.le.1 w3.le.2
      · rw [if_pos (by rw [i_eq_of (by omega) (by omega)]; exact c7), cal_same]
        by_cases c3 : x % 8 = 3
        · -- CAT
          have hx3 : x = 3 := by rcases hx with h | h | h <;> omega
          subst hx3
          rw [if_neg (by show ¬ ¬ Int32.ofNat (3 % 8) = Int32.ofNat 3; decide)]
          match ks, hn with
          | [a, b], hn =>
            have wa := wZ a (by simp)
            have pa := pZ a (by simp)
            have wb := wZ b (by simp)
            have pb := pZ b (by simp)
            simp only [List.cons_append, List.nil_append, List.flatten_cons, List.flatten_nil, List.append_nil, List.length_cons, List.length_append] at hlx he hlen hA
            have hB : At M l1 (e - (b ++ r.flatten).length) b := by
              have h1 := hA.app.2.cons.2.2.app.2.app.1
              rw [show at0 + u.length + 1 + a.length = e - (b ++ r.flatten).length by rw [List.length_append]; omega] at h1
              exact h1
            obtain ⟨M2, w1, w2, w3⟩ := d_both (r := r) hl1 hL ⟨hS, h9, h10⟩ wa wb pa pb wr' (by omega) (by rw [List.length_append]; omega) (by omega) hB
            refine ⟨M2, cal_some w1 w3.le.1 w3.le.2, ?_, w3⟩
            have : [a, b].flatten = a ++ b := by simp
            rw [this]
            exact w2
        · rw [if_pos (by rw [i_eq_of (by omega) (by omega)]; exact c3), cal_same]
          have hx4 : x % 8 = 4 ∨ x % 8 = 5 := by omega
          have hne : 1 ≤ ks.length := by
            rw [ar_n hx4] at hn
            rcases hx with h | h | h <;> omega
          obtain ⟨M2, w1, w2, w3⟩ := d_several hx4 hn hne hL ⟨hS, h9, h10⟩ wZ pZ (by rw [List.flatten_append, List.length_append]; omega)
          rw [show Int32.ofNat 3 = (3 : Int32) from rfl, it_shr (by omega)]
          exact ⟨M2, cal_some w1 w3.le.1 w3.le.2, w2, w3⟩
theorem r_derived15 {c e l1 at0 : Nat} {t : List Nat} (hl1 : l1 = 98 ∨ l1 = 108) (hc : c < 4) (wt : wf t) (pt' : pr t) (hlen : t.length ≤ 300) (he : e = at0 + t.length) (he2 : e < 1000000) : ∀ (n : Nat) (u : List Nat) (ps : List (List Nat)) (M : MS) (F : Nat), u.length = n → t = u ++ ps.flatten → (∀ p ∈ ps, wf p) → RL (gL M) → DInv M c e ps → At M l1 at0 t → n < F →
    ∃ M1, fx (fun (k : Nat × Int32 × Int32 × Int32 × MS → Option (MS × Int32)) (i : Nat × Int32 × Int32 × Int32 × MS) => m_Mo_derived_15b k i.1 i.2.1 i.2.2.1 i.2.2.2.1 i.2.2.2.2) F (l1, Int32.ofNat at0, Int32.ofNat c, Int32.ofNat n + -1, M) = some (M1, Int32.ofNat (DS c t).length) ∧ DInv M1 c e [t] ∧ Fr RD FD M M1 := by
  intro n
  induction n with
  | zero =>
    intro u ps M F hu hE hw hL hD hA hF
    obtain rfl := List.length_eq_zero_iff.mp hu
    rw [List.nil_append] at hE
    have h1 := cn_flat hw
    rw [← hE] at h1
    have h2 : cn t = some 1 := wt
    rw [h2] at h1
    simp only [Option.some.injEq] at h1
    match ps, h1 with
    | [p], _ =>
      have hp : p = t := by simpa using hE.symm
      subst hp
      cases F with
      | zero => omega
      | succ F =>
        refine ⟨M, ?_, hD, Fr.rf⟩
        show m_Mo_derived_15b _ l1 (Int32.ofNat at0) (Int32.ofNat c) (Int32.ofNat 0 + -1) M = _
        unfold m_Mo_derived_15b m_Mo_derived_310
        obtain ⟨⟨⟨a1, a2, a3, a4, a5⟩, hSr⟩, h9, h10⟩ := hD
        rw [if_pos (by decide), show (0 : Int32) = Int32.ofNat 0 from rfl, ld_of (by have := hL.2.2.1.2.1; omega) (by omega)]
        simp only [Option.bind_some]
        have a2 : gA M 103 0 = Int32.ofNat (DS c p).length := a2
        rw [a2]
  | succ n ih =>
    intro u ps M F hu hE hw hL hD hA hF
    rcases List.eq_nil_or_concat u with rfl | ⟨u', x, rfl⟩
    · simp at hu
    rw [List.concat_eq_append] at *
    rw [List.length_append, List.length_singleton] at hu
    have hE2 : t = u' ++ x :: ps.flatten := by rw [hE, List.append_assoc]; rfl
    have hcn : cn (u' ++ x :: ps.flatten) = some 1 := by rw [← hE2]; exact wt
    obtain ⟨m, hm⟩ := cn_suf hcn
    rw [cn_cons, cn_flat hw] at hm
    simp only [Option.bind_some] at hm
    have har : ar x ≤ ps.length := Classical.byContradiction (fun q => by rw [if_neg q] at hm; cases hm)
    have hsp : ps.take (ar x) ++ ps.drop (ar x) = ps := List.take_append_drop _ _
    have hkl : ar x = (ps.take (ar x)).length := by rw [List.length_take]; omega
    have hpx : prI x := pt' x (by rw [hE2]; simp)
    cases F with
    | zero => omega
    | succ F =>
      have hpz : ∀ p ∈ ps, pr p := pr_of_flat (fun y hy => pt' y (by rw [hE2]; exact List.mem_append_right _ (List.mem_cons_of_mem _ hy)))
      obtain ⟨M2, w1, w2, w3⟩ := r_step (k := fx (fun (k : Nat × Int32 × Int32 × Int32 × MS → Option (MS × Int32)) (i : Nat × Int32 × Int32 × Int32 × MS) => m_Mo_derived_15b k i.1 i.2.1 i.2.2.1 i.2.2.2.1 i.2.2.2.2) F) (M := M) (at0 := at0) (u := u') (x := x) (ks := ps.take (ar x)) (r := ps.drop (ar x)) hl1 hc hL (by rw [hsp]; exact hD) hkl hpx (by rw [hsp]; exact hw) (by rw [hsp]; exact hpz) (by rw [hsp, ← hE2]; exact hA) (by rw [hsp, ← hE2]; exact he) he2 (by rw [hsp, ← hE2]; exact hlen)
      have hwk : ∀ p ∈ ps.take (ar x), wf p := fun p hp => hw p (List.mem_of_mem_take hp)
      have hla : l1 ∉ RD := by rcases hl1 with rfl | rfl <;> decide
      obtain ⟨M3, v1, v2, v3⟩ := ih u' ((x :: (ps.take (ar x)).flatten) :: ps.drop (ar x)) M2 F (by omega) (by
        rw [List.flatten_cons, List.cons_append, ← List.flatten_append, hsp]
        exact hE2) (fun p hp => by
        rcases List.mem_cons.mp hp with rfl | hp
        · exact wf_mk hkl hwk
        · exact hw p (List.mem_of_mem_drop hp)) (hL.of w3.ln) w2 (hA.fr w3 hla) (by omega)
      refine ⟨M3, ?_, v2, w3.tr v3⟩
      refine Eq.trans ?_ v1
      have hu2 : u'.length = n := by omega
      rw [hu2] at w1
      have hnl : n < 300 := by
        have := congrArg List.length hE2
        rw [List.length_append, List.length_cons] at this
        omega
      have e1 : Int32.ofNat (n + 1) + -1 = Int32.ofNat n := by rw [i_dec (by omega) (by omega), Nat.add_sub_cancel]
      rw [e1]
      exact w1
/-- derived: the derivative stands at w's beginning -/
theorem r_derived {M : MS} {c l1 at0 : Nat} {t : List Nat} (hl1 : l1 = 98 ∨ l1 = 108) (hc : c < 4) (wt : wf t) (pt' : pr t) (hlen : t.length ≤ 300) (hat : at0 < 100000) (hL : RL (gL M)) (hA : At M l1 at0 t) :
    ∃ M1, m_Mo_derived l1 (Int32.ofNat at0) (Int32.ofNat t.length) (Int32.ofNat c) M = some (M1, Int32.ofNat (DS c t).length) ∧ At M1 100 0 (DS c t) ∧ gA M1 105 0 = b01 (NS t) ∧ Fr RD FD M M1 := by
  have hfr : Fr RD FD M (sI (sI M 97 9 0) 97 10 0) := (Fr.stI (by decide)).tr (Fr.stI (by decide))
  have hk : x_kd l1 = 20 := by rcases hl1 with rfl | rfl <;> decide
  have hl : 1 ≤ t.length := List.length_pos_iff.mpr (wf_ne wt)
  obtain ⟨M1, h1, h2, h3⟩ := r_derived15 (M := sI (sI M 97 9 0) 97 10 0) hl1 hc wt pt' hlen rfl (by omega) t.length t [] FU rfl (by simp) (fun p hp => by cases hp) hL ⟨True.intro, by rw [gI_sI, if_neg (by omega), gI_sI, if_pos ⟨rfl, rfl⟩]; rfl, by rw [gI_sI, if_pos ⟨rfl, rfl⟩]; rfl⟩ hA (by unfold FU; omega)
  obtain ⟨⟨⟨a1, a2, a3, a4, a5⟩, -⟩, -, -⟩ := h2
  refine ⟨M1, ?_, a5, a4, hfr.tr h3⟩
  unfold m_Mo_derived
  rw [if_pos hk]
  simp only [Option.bind_some]
  rw [i_dec (by omega) (by omega)] at h1
  rw [i_pred (by omega) (by omega)]
  exact h1
