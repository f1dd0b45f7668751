/-! STEP 2, the class: equal and witness -/
theorem c_begin86 {M : MS} {N : Nat} (hN : N ≤ 300) (hl : gL M 87 = 300) : ∃ M1, m_Comparison_begin (Int32.ofNat N) M = some (M1, ()) ∧ Fr [87] [(86, 6)] M M1 ∧ gI M1 86 6 = Int32.ofNat 0 ∧ ∀ x, x < N → gA M1 87 x = Int32.ofNat x := by
  have hf0 : Fr [87] [(86, 6)] M (sI M 86 6 0) := Fr.stI (by decide)
  obtain ⟨M1, ⟨h1, h2⟩, h3⟩ := lp0 (b := fun (k : Int32 × Int32 × MS → Option (MS × Unit)) (i : Int32 × Int32 × MS) => m_Comparison_begin_7b k i.1 i.2.1 i.2.2) (fun i (M' : MS) => (Int32.ofNat N, Int32.ofNat i, M'))
    (fun i (M' : MS) => Fr [87] [] (sI M 86 6 0) M' ∧ ∀ x, x < i → gA M' 87 x = Int32.ofNat x) (fun M' => some (M', ())) (n := N) (by
    intro k i M' hi ⟨h1, h2⟩
    refine ⟨sA M' 87 i (Int32.ofNat i), ⟨h1.tr (Fr.stA (by decide)), fun x hx => ?_⟩, ?_⟩
    · rw [gA_sA]
      by_cases e : x = i
      · rw [if_pos ⟨rfl, e⟩, e]
      · rw [if_neg (fun q => e q.2)]
        exact h2 x (by omega)
    · show m_Comparison_begin_7b k (Int32.ofNat N) (Int32.ofNat i) M' = _
      unfold m_Comparison_begin_7b
      rw [if_neg (by rw [i_le_of (by omega) (by omega)]; omega), st_of (by rw [h1.ln]; show i < gL M 87; omega) (by omega), Option.bind_some, i_inc]) (by
    intro k M' _
    show m_Comparison_begin_7b k (Int32.ofNat N) (Int32.ofNat N) M' = _
    unfold m_Comparison_begin_7b
    rw [if_pos (Int32.le_refl _)]) (sI M 86 6 0) (by omega) ⟨Fr.rf, fun x hx => absurd hx (Nat.not_lt_zero _)⟩
  refine ⟨M1, ?_, hf0.tr (h1.mono (by decide) (by simp)), ?_, h2⟩
  · unfold m_Comparison_begin
    rw [Option.bind_some]
    exact h3
  · rw [h1.gi (by simp), gI_sI, if_pos ⟨rfl, rfl⟩]
    rfl
theorem c_differ {a b : Nat} {q p : List (List Nat)} {t u : List Nat} {M : MS} (hX : MX a q M) (hY : MX b p M) (hq : Mch t q) (hp : Mch u p) (ha : a < 16) (hb : b < 16) : Ok (m_Comparison_differ (27 + 3 * a) (27 + 3 * b) M) (CQ t u M) := by
  have ql := hq.2.1
  have pl := hp.2.1
  obtain ⟨q0, q1⟩ := hq.pos
  obtain ⟨p0, p1⟩ := hp.pos
  obtain ⟨-, -, -, -, ⟨l87, l88, l89, l90, l91, l92⟩, -⟩ := id hX.2.2
  obtain ⟨M1, b1, b2, b3, b4⟩ := c_begin86 (M := M) (N := q.length + p.length) (by omega) l87
  unfold m_Comparison_differ
  rw [if_pos (x_mch ha).2.1, if_pos (x_mch hb).2.1, hX.count ha, cal_same]
  show Ok (cal cM M (m_Machine_count (27 + 3 * b) M) _) _
  rw [hY.count hb, cal_same]
  show Ok (cal cM M (m_Comparison_begin (Int32.ofNat q.length + Int32.ofNat p.length) M) _) _
  rw [i_add_of, cal_some b1 b2.le.1 b2.le.2]
  have hX1 := hX.fr ha b2 (by decide) (by decide)
  have hY1 := hY.fr hb b2 (by decide) (by decide)
  show Ok (cal cM M1 (m_Machine_count (27 + 3 * a) M1) _) _
  rw [hX1.count ha, cal_same]
  show Ok (cal cM M1 (m_Comparison_isNewPair (Int32.ofNat 0) (Int32.ofNat 0) (Int32.ofNat q.length) M1) _) _
  have hU : UFr M1 (q.length + p.length) 0 (fun x => x) (fun _ => 0) (List.range (q.length + p.length)) := ⟨fun x hx => ⟨b4 x hx, hx, Nat.le_refl _, fun h => absurd rfl h⟩, List.nodup_range, by rw [List.length_range]; rfl, fun x => by rw [List.mem_range]; exact ⟨fun h => ⟨h, rfl⟩, fun h => h.1⟩⟩
  rcases c_newPair (P := fun _ => True) (by omega) q0 p0 hU (by omega) b3 (by rw [b2.ln]; exact ⟨l87, l88, l89⟩) (fun v _ x _ => rfl) with ⟨M2, L1, d1, d2, d3, d4, d5⟩ | ⟨M2, L1, h1, rs1, d1, d2, d3, d4, d5, d6, d7⟩
  · exfalso
    have := d5 (fun x => decide (x = 0)) trivial
    rw [decide_eq_true rfl, decide_eq_false (by omega)] at this
    exact absurd this (by decide)
  · rw [cal_some d1 d4.le.1 d4.le.2, if_neg (by show ¬ (1 : Int32) = 0; decide)]
    have hX2 := hX1.fr ha d4 (by decide) (by simp)
    have hY2 := hY1.fr hb d4 (by decide) (by simp)
    have h62 : gI M2 86 6 = Int32.ofNat 0 := by rw [d4.gi (by simp)]; exact b3
    have hsp := c_isSplit (f := -1) (d := -1) hX2 hY2 hq hp ha hb h62 (by omega) (by rw [d5, if_pos rfl]) (by rw [d6, if_pos rfl]) q0 p0
    have hpf := pst_fr M2 0 (-1) (-1)
    rw [q1, p1] at hsp
    have hfr2 : Fr RCm [(86, 6)] M M2 := (b2.mono (by decide) (by decide)).tr (d4.mono (by decide) (by simp))
    have hfr3 : Fr RCm [(86, 6)] M (pst M2 0 (-1) (-1)) := hfr2.tr (hpf.mono (by decide) (by decide))
    by_cases hns : NS t = NS u
    · rw [if_pos hns] at hsp
      rw [cal_some hsp hpf.le.1 hpf.le.2, if_pos rfl]
      refine c_differ41 hX hY hq hp ha hb 1 (fun _ => 0) (fun _ => 0) (fun _ => []) _ ⟨⟨by omega, rfl, rfl, rfl, by omega⟩, fun m hm => ?_, fun i j hij hj => by omega, ⟨?_, fun m hm => ?_⟩, fun m hm0 hm1 => by omega, ⟨L1, h1, rs1, d2.keep (hpf.ga (by decide)), fun v hv => d3 v trivial (hv 0 (by omega))⟩, fun j d hj hd hjd => by omega, fun j hj => hns, pst_6 _ _ _ _, hfr3⟩
      · exact ⟨q0, p0, q1, p1, (fun c hc => by cases hc)⟩
      · rw [pst_90, if_pos rfl]
      · have e : m = 0 := by omega
        subst e
        rw [hpf.ga (by decide), hpf.ga (by decide), d5, d6, if_pos rfl, if_pos rfl]
        exact ⟨rfl, rfl⟩
    · rw [if_neg hns] at hsp
      have hF : FMc (pst M2 0 (-1) (-1)) (fun _ => []) 1 := ⟨rfl, by rw [pst_90, if_pos rfl], fun m hm0 hm1 => by omega⟩
      have hl3 := hfr3.ln
      obtain ⟨M4, w1, w2, w3, w4⟩ := c_keepWordTo (k := 0) (by rw [hl3]; exact l90) (by rw [hl3]; exact l91) (by rw [hl3]; exact l92) (by omega) hF (by omega)
      rw [cal_some w1 w4.le.1 w4.le.2] at hsp
      have hfA : Fr RCn [(86, 6), (86, 7)] M2 M4 := (hpf.mono (by decide) (by decide)).tr (w4.mono (by decide) (by decide))
      rw [cal_some hsp hfA.le.1 hfA.le.2, if_neg (by show ¬ (1 : Int32) = 0; decide)]
      refine ok_some ⟨(hfr2.mono (by decide) (by decide)).tr hfA, Or.inr ⟨[], rfl, ⟨(fun c hc => by cases hc), hns, fun v hv ht hs => ?_⟩, w2, w3⟩⟩
      unfold sl at hs
      rw [List.length_nil] at hs
      rcases hs with hs | ⟨hs, hs2⟩
      · omega
      · rw [List.length_eq_zero_iff.mp hs] at hs2
        omega
theorem KN.ne {S : Nat → List Nat} {a : Nat} {M : MS} (h : KN S a M) : gI M (27 + 3 * a) 2 ≠ 0 := by
  rcases h with ⟨h1, -⟩ | ⟨q, h1, h2, -⟩
  · rw [h1]; decide
  · rw [h2]
    have := h1.2.1
    have := h1.pos.1
    show ¬ Int32.ofNat q.length = Int32.ofNat 0
    rw [i_eq_of (by omega) (by omega)]
    omega
theorem KN.keep {S : Nat → List Nat} {a : Nat} {M M1 : MS} (h : KN S a M) (ha : a < 16) (hk : KPm M M1) : KN S a M1 := by
  obtain ⟨k1, k2, k3⟩ := hk a ha h.ne
  rcases h with ⟨h1, h2⟩ | ⟨q, h1, h2, h3⟩
  · exact Or.inl ⟨k1.trans h1, h2⟩
  · exact Or.inr ⟨q, h1, k1.trans h2, h3.keep k2 k3⟩
theorem c_equal {S : Nat → List Nat} {W : Option (List Nat)} {M : MS} {a b : Nat} (h : CI S W M) (ha : a < 16) (hb : b < 16) : ∃ v W', CA S W' M (m_D_equal (Int32.ofNat a) (Int32.ofNat b) M) v ∧ EqV (S a) (S b) v W' := by
  have hf0 : Fr [] [(86, 7)] M (sI M 86 7 (-1)) := Fr.stI (by decide)
  have h0 : CI S none (sI M 86 7 (-1)) := h.later hf0 (by simp) (by decide) (fun _ => by
    show gI _ 86 7 = -1
    rw [gI_sI, if_pos ⟨rfl, rfl⟩])
  have hF0 : FrC M (sI M 86 7 (-1)) := hf0.toC (by simp) (by decide)
  unfold m_D_equal m_Comparison_forget
  rw [c_checkSlot ha, cal_same, c_checkSlot hb, cal_same, Option.bind_some]
  show ∃ v W', CA S W' M (cal cM M (some (sI M 86 7 (-1), ())) _) v ∧ _
  rw [cal_sI]
  generalize sI M 86 7 (-1) = M0 at h0 hF0
  obtain ⟨M1, e1, e2, e3, e4, -⟩ := c_machineOf h0 ha
  obtain ⟨M2, f1, f2, f3, f4, f5⟩ := c_machineOf e2 hb
  show ∃ v W', CA S W' M (cal cM M0 (m_Explorer_machineOf (Int32.ofNat a) M0) _) v ∧ _
  rw [cal_some e1 e3.2.2.1.1 e3.2.2.1.2, if_pos (x_mch ha).2.1]
  show ∃ v W', CA S W' M (cal cM M1 (m_Explorer_machineOf (Int32.ofNat b) M1) _) v ∧ _
  rw [cal_some f1 f3.2.2.1.1 f3.2.2.1.2, if_pos (x_mch hb).2.1]
  have hF := (hF0.tr e3).tr f3
  show ∃ v W', CA S W' M (cal cM M2 (m_Machine_isTooLarge (27 + 3 * a) M2) _) v ∧ _
  rw [c_mlarge ha, cal_same]
  rcases e4.keep ha f5 with ⟨g1, g2⟩ | ⟨q, g1, g2, g3⟩
  · rw [if_pos g1, if_pos (by show ¬ (1 : Int32) = 0; decide)]
    exact ⟨-1, none, ⟨M2, rfl, f2, hF⟩, Or.inl ⟨Or.inl g2, rfl, rfl⟩⟩
  · have ql := g1.2.1
    have n1 : ¬ gI M2 (27 + 3 * a) 2 = -1 := by rw [g2]; exact i_nm1 (by omega)
    rw [if_neg n1, if_neg (by show ¬ ¬ (0 : Int32) = 0; decide)]
    show ∃ v W', CA S W' M (cal cM M2 (m_Machine_isTooLarge (27 + 3 * b) M2) _) v ∧ _
    rw [c_mlarge hb, cal_same]
    rcases f4 with ⟨k1, k2⟩ | ⟨p, k1, k2, k3⟩
    · rw [if_pos k1, if_neg (by show ¬ (1 : Int32) = 0; decide)]
      exact ⟨-1, none, ⟨M2, rfl, f2, hF⟩, Or.inl ⟨Or.inr k2, rfl, rfl⟩⟩
    · have pl := k1.2.1
      have n2 : ¬ gI M2 (27 + 3 * b) 2 = -1 := by rw [k2]; exact i_nm1 (by omega)
      rw [if_neg n2, if_pos (by rfl)]
      show ∃ v W', CA S W' M (cal cM M2 (m_Comparison_differ (27 + 3 * a) (27 + 3 * b) M2) _) v ∧ _
      obtain ⟨r, r1, r2, r3⟩ := c_differ (f2.mx g2 g3) (f2.mx k2 k3) g1 k1 ha hb
      have hF2 := hF.tr (r2.toC (by decide) (by decide))
      rw [cal_some r1 r2.le.1 r2.le.2]
      rcases r3 with ⟨s1, s2, s3⟩ | ⟨w, s1, s2, s3, s4⟩
      · rw [if_pos s1]
        refine ⟨1, none, ⟨r.1, rfl, f2.later r2 (by decide) (by decide) (fun hw => ?_), hF2⟩, Or.inr ⟨g1.nBig, k1.nBig, Or.inl ⟨s2, rfl, rfl⟩⟩⟩
        show gI r.1 86 7 = -1
        rw [s3]
        exact hw
      · rw [if_neg (by rw [s1]; decide)]
        exact ⟨0, some w, ⟨r.1, rfl, f2.later r2 (by decide) (by decide) (fun _ => ⟨s3, s4, s2.1⟩), hF2⟩, Or.inr ⟨g1.nBig, k1.nBig, Or.inr ⟨w, s2, rfl, rfl⟩⟩⟩
theorem c_witness {S : Nat → List Nat} {W : Option (List Nat)} {M : MS} {i : Int32} (h : CI S W M) : CA S W M (m_D_witness i M) (wtA W i) := by
  obtain ⟨g, sl, h'⟩ := id h
  have hW : WC M W := h'.2.2.2.2.2.2.2.2.2
  have l92 : gL M 92 = 300 := h'.ln.2.2.2.2.1.2.2.2.2.2
  have fin : ∀ v : Int32, CA S W M (some (M, v)) v := fun v => ⟨M, rfl, h, FrC.rf⟩
  unfold m_D_witness m_Comparison_letter m_Comparison_length
  cases W with
  | none =>
    have hW : gI M 86 7 = -1 := hW
    show CA S none M _ (-1)
    rw [hW]
    by_cases hi : i = -1
    · rw [if_neg (fun q => q hi), cal_same]
      exact fin _
    · rw [if_pos hi]
      by_cases hlt : i < 0
      · rw [if_pos hlt, cal_same]
        exact fin _
      · rw [if_neg hlt, if_pos (by
          rw [i_lt, i_0] at hlt
          rw [i_le, i_m1]
          omega), cal_same]
        exact fin _
  | some w =>
    obtain ⟨w1, w2, w3⟩ := hW
    have wl := w2.1
    unfold wtA
    rw [w1]
    show CA S (some w) M _ (if i.toInt < -1 ∨ (w.length : Int) ≤ i.toInt then -1 else if i = -1 then Int32.ofNat w.length else Int32.ofNat (w.getD i.toInt.toNat 0))
    by_cases hi : i = -1
    · rw [if_neg (fun q => q hi), cal_same, if_neg (by rw [hi, i_m1]; omega), if_pos hi]
      exact fin _
    · rw [if_pos hi]
      have hi' : i.toInt ≠ -1 := fun q => hi (by rw [i_eq, q, i_m1])
      by_cases hlt : i < 0
      · rw [if_pos hlt, cal_same, if_pos (Or.inl (by rw [i_lt, i_0] at hlt; omega))]
        exact fin _
      · rw [if_neg hlt]
        rw [i_lt, i_0] at hlt
        by_cases hle : (w.length : Int) ≤ i.toInt
        · rw [if_pos (by rw [i_le, i_of (by omega)]; exact hle), cal_same, if_pos (Or.inr hle)]
          exact fin _
        · obtain ⟨j, hj⟩ : ∃ j : Nat, i = Int32.ofNat j ∧ j < w.length := by
            refine ⟨i.toInt.toNat, ?_, by omega⟩
            rw [i_eq, i_of (by omega)]
            omega
          obtain ⟨rfl, hj⟩ := hj
          rw [if_neg (by rw [i_le_of (by omega) (by omega)]; omega), ld_of (by omega) (by omega), Option.bind_some, cal_same, if_neg (by omega), if_neg hi, i_of (by omega)]
          have := w2.2 j hj
          rw [Nat.zero_add] at this
          rw [this, Int.toNat_natCast]
          exact fin _
