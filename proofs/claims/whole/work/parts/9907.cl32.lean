/-! STEP 2, the class: words and find -/
theorem l_sh2 (acc : Nat) {c : Nat} (hc : c < 4) : (Int64.ofNat acc <<< ((2 : Int32).toInt64 &&& 63)) ||| (Int32.ofNat c).toInt64 = Int64.ofNat (4 * acc + c) := by
  have e : Int64.ofNat acc <<< ((2 : Int32).toInt64 &&& 63) = Int64.ofNat (4 * acc) := by
    apply Int64.toBitVec_inj.mp
    apply BitVec.eq_of_toNat_eq
    have e2 : ((2 : Int32).toInt64 &&& 63) = 2 := by decide
    rw [e2, Int64.toBitVec_shiftLeft]
    show (BitVec.ofNat 64 acc <<< (BitVec.smod (2 : Int64).toBitVec 64)).toNat = (BitVec.ofNat 64 (4 * acc)).toNat
    have e3 : BitVec.smod (2 : Int64).toBitVec 64 = 2#64 := by decide
    rw [e3]
    show (BitVec.ofNat 64 acc <<< (2#64).toNat).toNat = _
    rw [BitVec.toNat_shiftLeft, BitVec.toNat_ofNat, BitVec.toNat_ofNat, Nat.shiftLeft_eq]
    show acc % 2 ^ 64 * 2 ^ 2 % 2 ^ 64 = 4 * acc % 2 ^ 64
    omega
  rw [e, l_c ⟨c, hc⟩, l_or_of, show 4 * acc = 2 ^ 2 * acc from rfl, ← Nat.two_pow_add_eq_or_of_lt (i := 2) (by omega)]
theorem c_fill60 {a : Nat} {q : List (List Nat)} {M : MS} {t : List Nat} {k37 : Nat × Int32 × Int32 × MS → Option (MS × Unit)} {k45 : Nat × Int32 × Int32 × Int32 × MS → Option (MS × Unit)} {l2 : Int32} {k i : Nat} (h : MX a q M) (hm : Mch t q) (ha : a < 16) (hk : k < 16) (hi : i < q.length) (hC : CT M 94 q (k + 1) 0) :
    m_WordCounts_fill_60 k37 k45 (27 + 3 * a, l2, Int32.ofNat (k + 1), Int32.ofNat i, 0, 0, M) = m_WordCounts_fill_98 k37 k45 (27 + 3 * a) l2 (Int32.ofNat (k + 1)) (Int32.ofNat i) (Int64.ofNat (cw (q.getD i []) (k + 1))) M := by
  have hl := hm.2.1
  have l94 : gL M 94 = 2550 := h.2.2.2.2.2.2.2.1
  obtain ⟨s, -, h3⟩ := lp0 (b := fun (k : Nat × Int32 × Int32 × Int32 × Int64 × Int32 × MS → Option (MS × Unit)) (i : Nat × Int32 × Int32 × Int32 × Int64 × Int32 × MS) => m_WordCounts_fill_60b k37 k45 k i.1 i.2.1 i.2.2.1 i.2.2.2.1 i.2.2.2.2.1 i.2.2.2.2.2.1 i.2.2.2.2.2.2) (fun c (_ : Unit) => (27 + 3 * a, l2, Int32.ofNat (k + 1), Int32.ofNat i, Int64.ofNat (s4 (fun d => cw (DS d (q.getD i [])) k) c), Int32.ofNat c, M)) (fun _ _ => True) (fun _ => m_WordCounts_fill_98 k37 k45 (27 + 3 * a) l2 (Int32.ofNat (k + 1)) (Int32.ofNat i) (Int64.ofNat (cw (q.getD i []) (k + 1))) M) (n := 4) (by
    intro k' c s hc _
    refine ⟨(), trivial, ?_⟩
    show m_WordCounts_fill_60b k37 k45 k' (27 + 3 * a) l2 (Int32.ofNat (k + 1)) (Int32.ofNat i) _ (Int32.ofNat c) M = _
    unfold m_WordCounts_fill_60b
    obtain ⟨n1, n2⟩ := nxq_lt hm hi hc
    have e2 := hC k _ n1 (by omega)
    rw [n2] at e2
    rw [if_neg (by rw [show (4 : Int32) = Int32.ofNat 4 from rfl, i_le_of (by omega) (by omega)]; omega), h.next hm ha hi hc, cal_same]
    show ((ldJ M 94 ((Int32.ofNat (k + 1) - 1) * 150 + Int32.ofNat (nxq q i c))).bind _) = _
    rw [i_pred (by omega) (by omega), Nat.add_sub_cancel, show (150 : Int32) = Int32.ofNat 150 from rfl, i_mul_of, i_add_of, Nat.mul_comm, ld_ofJ (by omega) (by omega), e2, Option.bind_some, l_add_of, i_inc]
    rfl) (by
    intro k' s _
    show m_WordCounts_fill_60b k37 k45 k' (27 + 3 * a) l2 (Int32.ofNat (k + 1)) (Int32.ofNat i) _ (Int32.ofNat 4) M = _
    unfold m_WordCounts_fill_60b
    rw [if_pos (by decide), cw_s4]) () (by omega) trivial
  exact h3
theorem c_fill45 {a : Nat} {q : List (List Nat)} {M : MS} {t : List Nat} {k37 : Nat × Int32 × Int32 × MS → Option (MS × Unit)} {l2 : Int32} {k : Nat} (h : MX a q M) (hm : Mch t q) (ha : a < 16) (hk : k < 16) (hC : CT M 94 q (k + 1) 0) :
    ∃ M1, m_WordCounts_fill_45 k37 (27 + 3 * a, l2, Int32.ofNat (k + 1), 0, M) = k37 (27 + 3 * a, l2, Int32.ofNat (k + 2), M1) ∧ Fr [94] [] M M1 ∧ CT M1 94 q (k + 2) 0 := by
  have hl := hm.2.1
  obtain ⟨M1, ⟨h1, h2⟩, h3⟩ := lp0 (b := fun (k : Nat × Int32 × Int32 × Int32 × MS → Option (MS × Unit)) (i : Nat × Int32 × Int32 × Int32 × MS) => m_WordCounts_fill_45b k37 k i.1 i.2.1 i.2.2.1 i.2.2.2.1 i.2.2.2.2) (fun i (M' : MS) => (27 + 3 * a, l2, Int32.ofNat (k + 1), Int32.ofNat i, M')) (fun i M' => Fr [94] [] M M' ∧ CT M' 94 q (k + 1) i) (fun M' => k37 (27 + 3 * a, l2, Int32.ofNat (k + 2), M')) (n := q.length) (by
    intro k' i M' hi ⟨h1, h2⟩
    have hX := h.fr ha h1 (by decide) (by simp)
    have l94 : gL M' 94 = 2550 := hX.2.2.2.2.2.2.2.1
    refine ⟨sJ M' 94 (150 * (k + 1) + i) (Int64.ofNat (cw (q.getD i []) (k + 1))), ⟨h1.tr (Fr.stJ (by decide)), fun m j hj hmj => ?_⟩, ?_⟩
    · rw [gJ_sJ]
      by_cases he : m = k + 1 ∧ j = i
      · rw [if_pos (by rw [he.1, he.2]; exact ⟨rfl, rfl⟩), he.1, he.2]
      · rw [if_neg (by omega)]
        exact h2 m j hj (by omega)
    · show m_WordCounts_fill_45b k37 k' (27 + 3 * a) l2 (Int32.ofNat (k + 1)) (Int32.ofNat i) M' = _
      unfold m_WordCounts_fill_45b
      rw [hX.count ha, cal_same, if_neg (by rw [i_le_of (by omega) (by omega)]; omega)]
      refine (c_fill60 hX hm ha hk hi (fun m j hj hmj => h2 m j hj (by omega))).trans ?_
      unfold m_WordCounts_fill_98
      rw [show (150 : Int32) = Int32.ofNat 150 from rfl, i_mul_of, i_add_of, Nat.mul_comm, st_ofJ (by omega) (by omega), Option.bind_some, i_inc]) (by
    intro k' M' ⟨h1, h2⟩
    have hX := h.fr ha h1 (by decide) (by simp)
    show m_WordCounts_fill_45b k37 k' (27 + 3 * a) l2 (Int32.ofNat (k + 1)) (Int32.ofNat q.length) M' = _
    unfold m_WordCounts_fill_45b
    rw [hX.count ha, cal_same, if_pos (Int32.le_refl _), i_inc]) M (by omega) ⟨Fr.rf, hC⟩
  exact ⟨M1, h3, h1, fun m j hj hmj => h2 m j hj (by omega)⟩
theorem c_fill94 {a : Nat} {q : List (List Nat)} {M : MS} {t : List Nat} {L : Nat} (h : MX a q M) (hm : Mch t q) (ha : a < 16) (hL : L ≤ 16) : ∃ M1, m_WordCounts_fill (27 + 3 * a) (Int32.ofNat L) M = some (M1, ()) ∧ Fr [94] [] M M1 ∧ CT M1 94 q (L + 1) 0 := by
  have hl := hm.2.1
  obtain ⟨M1, ⟨h1, h2⟩, h3⟩ := lp0 (b := fun (k : Nat × Int32 × Int32 × MS → Option (MS × Unit)) (i : Nat × Int32 × Int32 × MS) => m_WordCounts_fill_2b k i.1 i.2.1 i.2.2.1 i.2.2.2) (fun i (M' : MS) => (27 + 3 * a, Int32.ofNat L, Int32.ofNat i, M')) (fun i M' => Fr [94] [] M M' ∧ CT M' 94 q 0 i) (fun M' => m_WordCounts_fill_37 (27 + 3 * a, Int32.ofNat L, 1, M')) (n := q.length) (by
    intro k' i M' hi ⟨h1, h2⟩
    have hX := h.fr ha h1 (by decide) (by simp)
    have l94 : gL M' 94 = 2550 := hX.2.2.2.2.2.2.2.1
    refine ⟨sJ M' 94 i (Int64.ofNat (cw (q.getD i []) 0)), ⟨h1.tr (Fr.stJ (by decide)), fun m j hj hmj => ?_⟩, ?_⟩
    · rw [gJ_sJ]
      have hm0 : m = 0 := by omega
      subst hm0
      by_cases he : j = i
      · rw [if_pos ⟨rfl, by omega⟩, he]
      · rw [if_neg (by omega)]
        exact h2 0 j hj (by omega)
    · show m_WordCounts_fill_2b k' (27 + 3 * a) (Int32.ofNat L) (Int32.ofNat i) M' = _
      unfold m_WordCounts_fill_2b m_WordCounts_fill_28
      rw [hX.count ha, cal_same, if_neg (by rw [i_le_of (by omega) (by omega)]; omega), hX.acc hm ha hi, cal_same]
      unfold cw
      cases NS (q.getD i []) with
      | true =>
        rw [if_neg (by show ¬ b01 true = 0; decide), if_pos rfl, st_ofJ (by show i < gL M' 94; omega) (by omega), Option.bind_some, i_inc]
        rfl
      | false =>
        rw [if_pos (by show b01 false = 0; decide), if_neg (by decide), st_ofJ (by show i < gL M' 94; omega) (by omega), Option.bind_some, i_inc]
        rfl) (by
    intro k' M' ⟨h1, h2⟩
    have hX := h.fr ha h1 (by decide) (by simp)
    show m_WordCounts_fill_2b k' (27 + 3 * a) (Int32.ofNat L) (Int32.ofNat q.length) M' = _
    unfold m_WordCounts_fill_2b
    rw [hX.count ha, cal_same, if_pos (Int32.le_refl _)]) M (by omega) ⟨Fr.rf, fun m j hj hmj => by omega⟩
  obtain ⟨M2, ⟨g1, g2⟩, g3⟩ := lp0 (b := fun (k : Nat × Int32 × Int32 × MS → Option (MS × Unit)) (i : Nat × Int32 × Int32 × MS) => m_WordCounts_fill_37b k i.1 i.2.1 i.2.2.1 i.2.2.2) (fun i (M' : MS) => (27 + 3 * a, Int32.ofNat L, Int32.ofNat (i + 1), M')) (fun i M' => Fr [94] [] M M' ∧ CT M' 94 q (i + 1) 0) (fun M' => some (M', ())) (n := L) (by
    intro k' i M' hi ⟨h1, h2⟩
    have hX := h.fr ha h1 (by decide) (by simp)
    obtain ⟨M2, e1, e2, e3⟩ := c_fill45 (k37 := k') (l2 := Int32.ofNat L) hX hm ha (by omega) h2
    refine ⟨M2, ⟨h1.tr e2, e3⟩, ?_⟩
    show m_WordCounts_fill_37b k' (27 + 3 * a) (Int32.ofNat L) (Int32.ofNat (i + 1)) M' = _
    unfold m_WordCounts_fill_37b
    rw [if_neg (by rw [i_lt_of (by omega) (by omega)]; omega)]
    exact e1) (by
    intro k' M' _
    show m_WordCounts_fill_37b k' (27 + 3 * a) (Int32.ofNat L) (Int32.ofNat (L + 1)) M' = _
    unfold m_WordCounts_fill_37b
    rw [if_pos (by rw [i_lt_of (by omega) (by omega)]; omega)]) M1 (by omega) ⟨h1, fun m j hj hmj => h2 m j hj (by omega)⟩
  refine ⟨M2, ?_, g1, g2⟩
  unfold m_WordCounts_fill
  rw [if_pos (x_mch ha).2.1]
  exact h3.trans g3
theorem c_words {S : Nat → List Nat} {W : Option (List Nat)} {M : MS} {a n : Nat} (h : CI S W M) (ha : a < 16) (hn : n ≤ 16) : CX S W M (m_D_words (Int32.ofNat a) (Int32.ofNat n) M) (WdV (S a) n) := by
  unfold m_D_words
  rw [c_checkSlot ha, cal_same, show (16 : Int32) = Int32.ofNat 16 from rfl, c_checkRange hn (by omega), cal_same]
  refine mach_then h ha (G := fun x => CX S W M x (WdV (S a) n)) (fun hb M1 h1 hf e => ?_) (fun q M1 hm h1 hf e hx => ?_)
  · rw [if_pos (x_mch ha).2.1, c_mlarge ha, cal_same, if_pos e, if_neg (by show ¬ (1 : Int32) = 0; decide)]
    exact ⟨_, ⟨M1, rfl, h1, hf⟩, Or.inl ⟨hb, rfl⟩⟩
  · have hl := hm.2.1
    obtain ⟨p0, p1⟩ := hm.pos
    have e' : ¬ gI M1 (27 + 3 * a) 2 = -1 := by rw [e]; exact i_nm1 (by omega)
    have hX := h1.mx e hx
    obtain ⟨M2, r1, r2, r3⟩ := c_fill94 hX hm ha hn
    have hv := r3 n 0 p0 (by omega)
    rw [p1] at hv
    have l94 : gL M2 94 = 2550 := by rw [r2.ln]; exact hX.2.2.2.2.2.2.2.1
    have hof : m_WordCounts_ofLength (27 + 3 * a) (Int32.ofNat n) M1 = some (M2, Int64.ofNat (cw (S a) n)) := by
      unfold m_WordCounts_ofLength
      rw [if_pos (x_mch ha).2.1, cal_some r1 r2.le.1 r2.le.2]
      show ((ldJ M2 94 (Int32.ofNat n * 150)).bind _) = _
      rw [show (150 : Int32) = Int32.ofNat 150 from rfl, i_mul_of, Nat.mul_comm, ld_ofJ (by omega) (by omega)]
      rw [Nat.add_zero] at hv
      rw [hv, Option.bind_some]
    rw [if_pos (x_mch ha).2.1, c_mlarge ha, cal_same, if_neg e', if_pos rfl, cal_some hof r2.le.1 r2.le.2]
    exact ⟨_, ⟨M2, rfl, h1.later r2 (by decide) (by simp) (fun hw => hw.keep (r2.gi (by simp)) (r2.ga (by decide)) (by rw [r2.ln])), hf.tr (r2.toC (by decide) (by simp))⟩, Or.inr ⟨hm.nBig, rfl⟩⟩
/-! find -/
theorem c_wol43 {a : Nat} {q : List (List Nat)} {M : MS} {t : List Nat} {k14 : Nat × Int64 × Int64 × Int32 × Int32 × MS → Option (MS × Int64)} {l5 : Int64} {j i : Nat} (h : MX a q M) (hm : Mch t q) (ha : a < 16) (hi : i < 16) (hj : j < q.length) (hC : CT M 94 q 17 0) :
    ∀ (n c left F : Nat), c + n = 3 → left < 9223372036854775808 → n < F → fx (fun (k : Nat × Int64 × Int64 × Int32 × Int32 × Int32 × Int64 × MS → Option (MS × Int64)) (i : Nat × Int64 × Int64 × Int32 × Int32 × Int32 × Int64 × MS) => m_WordCounts_wordOfLength_43b k14 k i.1 i.2.1 i.2.2.1 i.2.2.2.1 i.2.2.2.2.1 i.2.2.2.2.2.1 i.2.2.2.2.2.2.1 i.2.2.2.2.2.2.2) F (27 + 3 * a, l5, Int64.ofNat left, Int32.ofNat j, Int32.ofNat i, Int32.ofNat c, Int64.ofNat (cw (DS c (q.getD j [])) i), M) = m_WordCounts_wordOfLength_92 k14 (27 + 3 * a) l5 (Int64.ofNat (sc (fun d => cw (DS d (q.getD j [])) i) left n c).2) (Int32.ofNat j) (Int32.ofNat i) (Int32.ofNat (sc (fun d => cw (DS d (q.getD j [])) i) left n c).1) M := by
  have hl := hm.2.1
  have l94 : gL M 94 = 2550 := h.2.2.2.2.2.2.2.1
  intro n
  induction n with
  | zero =>
    intro c left F h1 h2 h4
    have hc : c = 3 := by omega
    subst hc
    cases F with
    | zero => omega
    | succ F =>
      rw [fx_s]
      generalize fx _ F = k
      show m_WordCounts_wordOfLength_43b k14 k (27 + 3 * a) l5 (Int64.ofNat left) (Int32.ofNat j) (Int32.ofNat i) (Int32.ofNat 3) _ M = _
      unfold m_WordCounts_wordOfLength_43b
      rw [if_pos (by decide)]
      rfl
  | succ n ih =>
    intro c left F h1 h2 h4
    cases F with
    | zero => omega
    | succ F =>
      have ih' := fun left hl => ih (c + 1) left F (by omega) hl (by omega)
      rw [fx_s]
      generalize fx _ F = k at ih' ⊢
      show m_WordCounts_wordOfLength_43b k14 k (27 + 3 * a) l5 (Int64.ofNat left) (Int32.ofNat j) (Int32.ofNat i) (Int32.ofNat c) (Int64.ofNat (cw (DS c (q.getD j [])) i)) M = _
      unfold m_WordCounts_wordOfLength_43b
      rw [if_neg (by rw [show (3 : Int32) = Int32.ofNat 3 from rfl, i_le_of (by omega) (by omega)]; omega)]
      by_cases hc : left < cw (DS c (q.getD j [])) i
      · have e : sc (fun d => cw (DS d (q.getD j [])) i) left (n + 1) c = (c, left) := by
          unfold sc
          rw [if_pos hc]
        rw [if_pos (by rw [lg_cmp_lt, l_lt_of h2 (cw_lt (by omega))]; exact hc), e]
      · have e : sc (fun d => cw (DS d (q.getD j [])) i) left (n + 1) c = sc (fun d => cw (DS d (q.getD j [])) i) (left - cw (DS c (q.getD j [])) i) n (c + 1) := by
          conv => lhs; unfold sc
          rw [if_neg hc]
        obtain ⟨n1, n2⟩ := nxq_lt hm hj (c := c + 1) (by omega)
        have e2 := hC i _ n1 (by omega)
        rw [n2] at e2
        rw [if_neg (by rw [lg_cmp_lt, l_lt_of h2 (cw_lt (by omega))]; exact hc), e, i_inc, h.next hm ha hj (by omega), cal_same]
        show ((ldJ M 94 (Int32.ofNat i * 150 + Int32.ofNat (nxq q j (c + 1)))).bind _) = _
        rw [show (150 : Int32) = Int32.ofNat 150 from rfl, i_mul_of, i_add_of, Nat.mul_comm, ld_ofJ (by omega) (by omega), e2, Option.bind_some, l_sub_of (by omega)]
        exact ih' (left - cw (DS c (q.getD j [])) i) (by omega)
theorem c_wol14 {a : Nat} {q : List (List Nat)} {M : MS} {t : List Nat} (h : MX a q M) (hm : Mch t q) (ha : a < 16) (hC : CT M 94 q 17 0) :
    ∀ (i j left acc F : Nat), i ≤ 16 → j < q.length → left < cw (q.getD j []) i → i < F → fx (fun (k : Nat × Int64 × Int64 × Int32 × Int32 × MS → Option (MS × Int64)) (i : Nat × Int64 × Int64 × Int32 × Int32 × MS) => m_WordCounts_wordOfLength_14b k i.1 i.2.1 i.2.2.1 i.2.2.2.1 i.2.2.2.2.1 i.2.2.2.2.2) F (27 + 3 * a, Int64.ofNat acc, Int64.ofNat left, Int32.ofNat j, Int32.ofNat i + -1, M) = some (M, Int64.ofNat (fdW (q.getD j []) i left acc)) := by
  have hl := hm.2.1
  have l94 : gL M 94 = 2550 := h.2.2.2.2.2.2.2.1
  intro i
  induction i with
  | zero =>
    intro j left acc F h1 h2 h3 h4
    cases F with
    | zero => omega
    | succ F =>
      rw [fx_s]
      generalize fx _ F = k
      show m_WordCounts_wordOfLength_14b k (27 + 3 * a) (Int64.ofNat acc) (Int64.ofNat left) (Int32.ofNat j) (Int32.ofNat 0 + -1) M = _
      unfold m_WordCounts_wordOfLength_14b
      rw [if_pos (by decide)]
      rfl
  | succ i ih =>
    intro j left acc F h1 h2 h3 h4
    cases F with
    | zero => omega
    | succ F =>
      have e1 : Int32.ofNat (i + 1) + -1 = Int32.ofNat i := by rw [i_dec (by omega) (by omega), Nat.add_sub_cancel]
      have ih' := fun j left acc h2 h3 => ih j left acc F (by omega) h2 h3 (by omega)
      rw [e1, fx_s]
      generalize fx _ F = k at ih' ⊢
      show m_WordCounts_wordOfLength_14b k (27 + 3 * a) (Int64.ofNat acc) (Int64.ofNat left) (Int32.ofNat j) (Int32.ofNat i) M = _
      have hlt := cw_lt (t := q.getD j []) h1
      rw [cw_s4] at h3
      have hsum : left + s4 (fun d => cw (DS d (q.getD j [])) i) 0 < s4 (fun d => cw (DS d (q.getD j [])) i) 4 := h3
      obtain ⟨p1, p2⟩ := sc_ok 3 0 left rfl hsum
      rw [cw_s4] at hlt
      unfold m_WordCounts_wordOfLength_14b m_WordCounts_wordOfLength_43
      obtain ⟨n1, n2⟩ := nxq_lt hm h2 (c := 0) (by omega)
      have e2 := hC i _ n1 (by omega)
      rw [n2] at e2
      have hn0 : m_Machine_next (27 + 3 * a) (Int32.ofNat j) (0 : Int32) M = some (M, Int32.ofNat (nxq q j 0)) := h.next hm ha h2 (c := 0) (by omega)
      rw [if_neg (by rw [i_lt, i_of (by omega), i_0]; omega), hn0, cal_same]
      show ((ldJ M 94 (Int32.ofNat i * 150 + Int32.ofNat (nxq q j 0))).bind _) = _
      rw [show (150 : Int32) = Int32.ofNat 150 from rfl, i_mul_of, i_add_of, Nat.mul_comm, ld_ofJ (by omega) (by omega), e2, Option.bind_some]
      refine (c_wol43 (k14 := k) (l5 := Int64.ofNat acc) h hm ha (by omega) h2 hC 3 0 left FU rfl (by omega) (by unfold FU; omega)).trans ?_
      have hfd : fdW (q.getD j []) (i + 1) left acc = fdW (DS (sc (fun d => cw (DS d (q.getD j [])) i) left 3 0).1 (q.getD j [])) i (sc (fun d => cw (DS d (q.getD j [])) i) left 3 0).2 (4 * acc + (sc (fun d => cw (DS d (q.getD j [])) i) left 3 0).1) := rfl
      rw [hfd]
      generalize sc (fun d => cw (DS d (q.getD j [])) i) left 3 0 = p at p1 p2
      obtain ⟨m1, m2⟩ := nxq_lt hm h2 p1
      unfold m_WordCounts_wordOfLength_92
      rw [h.next hm ha h2 p1, cal_same, l_sh2 acc p1]
      have := ih' (nxq q j p.1) p.2 (4 * acc + p.1) m1 (by rw [m2]; exact p2)
      rw [m2] at this
      exact this
theorem l_17 : ∀ n : Fin 17, (Int32.ofNat n.val).toInt64 = Int64.ofNat n.val := by decide
theorem c_wordAt23 {a : Nat} {q : List (List Nat)} {M : MS} {t : List Nat} (h : MX a q M) (hm : Mch t q) (ha : a < 16) (hC : CT M 94 q 17 0) :
    ∀ (r left F : Nat), r ≤ 17 → left < 9223372036854775808 → r < F → fx (fun (k : Nat × Int64 × Int32 × MS → Option (MS × Int64)) (i : Nat × Int64 × Int32 × MS) => m_WordCounts_wordAt_23b k i.1 i.2.1 i.2.2.1 i.2.2.2) F (27 + 3 * a, Int64.ofNat left, Int32.ofNat (17 - r), M) = some (M, match fdL t r left with
      | none => -1
      | some p => Int64.ofNat (2 ^ 36 * p.1 + fdW t p.1 p.2 0)) := by
  have hp := hm.pos
  have l94 : gL M 94 = 2550 := h.2.2.2.2.2.2.2.1
  intro r
  induction r with
  | zero =>
    intro left F h1 h2 h3
    cases F with
    | zero => omega
    | succ F =>
      rw [fx_s]
      generalize fx _ F = k
      show m_WordCounts_wordAt_23b k (27 + 3 * a) (Int64.ofNat left) (Int32.ofNat 17) M = _
      unfold m_WordCounts_wordAt_23b
      rw [if_pos (by decide)]
      rfl
  | succ r ih =>
    intro left F h1 h2 h3
    cases F with
    | zero => omega
    | succ F =>
      have e17 : 17 - (r + 1) = 16 - r := by omega
      have ih' := fun left hl => ih left F (by omega) hl (by omega)
      rw [e17, fx_s]
      generalize fx _ F = k at ih' ⊢
      show m_WordCounts_wordAt_23b k (27 + 3 * a) (Int64.ofNat left) (Int32.ofNat (16 - r)) M = _
      have hv := hC (16 - r) 0 hp.1 (by omega)
      rw [hp.2, Nat.add_zero] at hv
      unfold m_WordCounts_wordAt_23b
      rw [if_neg (by rw [show (16 : Int32) = Int32.ofNat 16 from rfl, i_lt_of (by omega) (by omega)]; omega), show (150 : Int32) = Int32.ofNat 150 from rfl, i_mul_of, Nat.mul_comm, ld_ofJ (by omega) (by omega), hv, Option.bind_some]
      by_cases hc : left < cw t (16 - r)
      · have e : fdL t (r + 1) left = some (16 - r, left) := by
          unfold fdL
          rw [if_pos hc]
        rw [if_neg (by rw [lg_cmp_ge, Int64.le_iff_toInt_le, l_of h2, l_of (cw_lt (by omega))]; omega), e]
        unfold m_WordCounts_wordAt_51
        have h14 := c_wol14 h hm ha hC (16 - r) 0 left 0 FU (by omega) hp.1 (by rw [hp.2]; exact hc) (by unfold FU; omega)
        rw [hp.2] at h14
        have hw : m_WordCounts_wordOfLength (27 + 3 * a) (Int32.ofNat (16 - r)) (Int64.ofNat left) M = some (M, Int64.ofNat (fdW t (16 - r) left 0)) := by
          unfold m_WordCounts_wordOfLength
          rw [if_pos (x_mch ha).2.1, Int32.sub_eq_add_neg]
          exact h14
        rw [hw, cal_same, l_17 ⟨16 - r, by omega⟩, show (68719476736 : Int64) = Int64.ofNat (2 ^ 36) from rfl, l_mul_of, l_add_of, Nat.mul_comm]
      · have e : fdL t (r + 1) left = fdL t r (left - cw t (16 - r)) := by
          conv => lhs; unfold fdL
          rw [if_neg hc]
        rw [if_pos (by rw [lg_cmp_ge, Int64.le_iff_toInt_le, l_of h2, l_of (cw_lt (by omega))]; omega), e, l_sub_of (by omega), i_inc, show 16 - r + 1 = 17 - r by omega]
        exact ih' (left - cw t (16 - r)) (by omega)
theorem c_find {S : Nat → List Nat} {W : Option (List Nat)} {M : MS} {a : Nat} {k : Int64} (h : CI S W M) (ha : a < 16) : CX S W M (m_D_find (Int32.ofNat a) k M) (FdV (S a) k) := by
  unfold m_D_find
  rw [c_checkSlot ha, cal_same]
  refine mach_then h ha (G := fun x => CX S W M x (FdV (S a) k)) (fun hb M1 h1 hf e => ?_) (fun q M1 hm h1 hf e hx => ?_)
  · rw [if_pos (x_mch ha).2.1, c_mlarge ha, cal_same, if_pos e, if_neg (by show ¬ (1 : Int32) = 0; decide)]
    exact ⟨_, ⟨M1, rfl, h1, hf⟩, Or.inl ⟨Or.inl hb, rfl⟩⟩
  · have hl := hm.2.1
    have e' : ¬ gI M1 (27 + 3 * a) 2 = -1 := by rw [e]; exact i_nm1 (by omega)
    have hX := h1.mx e hx
    rw [if_pos (x_mch ha).2.1, c_mlarge ha, cal_same, if_neg e', if_pos rfl]
    show CX S W M (cal cM M1 (m_WordCounts_wordAt (27 + 3 * a) k M1) _) _
    have hk0 : (0 ≤ lg_cmp k 0) ↔ 0 ≤ k.toInt := by
      rw [lg_cmp_ge, Int64.le_iff_toInt_le]
      rfl
    by_cases hk : 0 ≤ k.toInt
    · obtain ⟨M2, r1, r2, r3⟩ := c_fill94 hX hm ha (Nat.le_refl 16)
      have hkl : k.toInt.toNat < 9223372036854775808 := by
        have := Int64.toInt_lt k
        omega
      have hke : k = Int64.ofNat k.toInt.toNat := by
        apply Int64.toInt_inj.mp
        rw [l_of hkl]
        omega
      have h23 := c_wordAt23 (hX.fr ha r2 (by decide) (by simp)) hm ha r3 17 k.toInt.toNat FU (by omega) hkl (by unfold FU; omega)
      rw [← hke] at h23
      have hwa : m_WordCounts_wordAt (27 + 3 * a) k M1 = some (M2, fdA (S a) k.toInt.toNat) := by
        unfold m_WordCounts_wordAt
        rw [if_pos (x_mch ha).2.1, if_pos (hk0.mpr hk), show (16 : Int32) = Int32.ofNat 16 from rfl, cal_some r1 r2.le.1 r2.le.2]
        exact h23
      rw [cal_some hwa r2.le.1 r2.le.2]
      exact ⟨_, ⟨M2, rfl, h1.later r2 (by decide) (by simp) (fun hw => hw.keep (r2.gi (by simp)) (r2.ga (by decide)) (by rw [r2.ln])), hf.tr (r2.toC (by decide) (by simp))⟩, Or.inr ⟨hm.nBig, hk, rfl⟩⟩
    · have hwa : m_WordCounts_wordAt (27 + 3 * a) k M1 = some (M1, -1) := by
        unfold m_WordCounts_wordAt
        rw [if_pos (x_mch ha).2.1, if_neg (fun h => hk (hk0.mp h))]
      rw [hwa, cal_same]
      exact ⟨_, ⟨M1, rfl, h1, hf⟩, Or.inl ⟨Or.inr (by omega), rfl⟩⟩
