/-! STEP 2: how many words of a length; the reference's states, count, words -/
def cw (t : List Nat) (k : Nat) : Nat := match k with
  | 0 => if NS t = true then 1 else 0
  | k + 1 => cw (DS 0 t) k + cw (DS 1 t) k + cw (DS 2 t) k + cw (DS 3 t) k
theorem cw_le : ∀ (k : Nat) (t : List Nat), cw t k ≤ 4 ^ k := by
  intro k
  induction k with
  | zero =>
    intro t
    unfold cw
    split <;> decide
  | succ k ih =>
    intro t
    show cw (DS 0 t) k + cw (DS 1 t) k + cw (DS 2 t) k + cw (DS 3 t) k ≤ _
    have h0 := ih (DS 0 t)
    have h1 := ih (DS 1 t)
    have h2 := ih (DS 2 t)
    have h3 := ih (DS 3 t)
    rw [Nat.pow_succ]
    omega
def s4 (f : Nat → Nat) (c : Nat) : Nat := match c with
  | 0 => 0
  | c + 1 => s4 f c + f c
theorem cw_s4 (t : List Nat) (k : Nat) : cw t (k + 1) = s4 (fun d => cw (DS d t) k) 4 := by
  show cw (DS 0 t) k + cw (DS 1 t) k + cw (DS 2 t) k + cw (DS 3 t) k = 0 + cw (DS 0 t) k + cw (DS 1 t) k + cw (DS 2 t) k + cw (DS 3 t) k
  rw [Nat.zero_add]
theorem Mch.nx {t : List Nat} {q : List (List Nat)} (h : Mch t q) {i c : Nat} (hi : i < q.length) (hc : c < 4) : ix (DS c (q.getD i [])) q < q.length ∧ q.getD (ix (DS c (q.getD i [])) q) [] = DS c (q.getD i []) := ix_mem (h.2.2.2.2.1 _ (getD_mem hi) c hc)
theorem Mch.pos {t : List Nat} {q : List (List Nat)} (h : Mch t q) : 0 < q.length ∧ q.getD 0 [] = t := getD_of h.2.2.1
theorem XM.fr {M M1 : MS} {q : List (List Nat)} {R : List Nat} {F : List (Nat × Nat)} (h : XM M q) (hf : Fr R F M M1) (h1 : 110 ∉ R) (h2 : 114 ∉ R) : XM M1 q := fun i hi => by
  obtain ⟨g1, g2⟩ := h i hi
  exact ⟨by rw [hf.ga h2]; exact g1, fun c hc => by rw [hf.ga h1]; exact g2 c hc⟩
theorem ld_ofJ {M : MS} {a i : Nat} (h : i < gL M a) (h2 : i < 2147483648) : ldJ M a (Int32.ofNat i) = some (gJ M a i) := by
  unfold ldJ
  have e : (Int32.ofNat i).toNatClampNeg = i := by rw [i_cl, i_of h2]; omega
  rw [e, if_neg]
  rw [i_lt, i_of h2, i_0]
  omega
theorem st_ofJ {M : MS} {a i : Nat} {x : Int64} (h : i < gL M a) (h2 : i < 2147483648) : stJ M a (Int32.ofNat i) x = some (sJ M a i x) := by
  unfold stJ
  have e : (Int32.ofNat i).toNatClampNeg = i := by rw [i_cl, i_of h2]; omega
  rw [e, if_neg]
  rw [i_lt, i_of h2, i_0]
  omega
theorem Fr.stJ {R : List Nat} {F : List (Nat × Nat)} {M : MS} {a j : Nat} {x : Int64} (h : a ∈ R) : Fr R F M (sJ M a j x) :=
  ⟨fun b hb => ⟨rfl, by
    funext p
    rw [gJ_sJ, if_neg (fun (q : b = a ∧ _) => hb (q.1 ▸ h))]⟩, rfl, fun _ _ _ => rfl, rfl, rfl⟩
theorem l_add_of (a b : Nat) : Int64.ofNat a + Int64.ofNat b = Int64.ofNat (a + b) := (Int64.ofNat_add a b).symm
/-- the table of counts, up to a place -/
def CT (M : MS) (a : Nat) (q : List (List Nat)) (k i : Nat) : Prop := ∀ m j, j < q.length → (m < k ∨ (m = k ∧ j < i)) → gJ M a (150 * m + j) = Int64.ofNat (cw (q.getD j []) m)
theorem r_count54 {M : MS} {t : List Nat} {q : List (List Nat)} {k35 : Int32 × Int32 × MS → Option (MS × Unit)} {k43 : Int32 × Int32 × Int32 × MS → Option (MS × Unit)} {l1 : Int32} {k i : Nat} (hm : Mch t q) (hX : XM M q) (l10 : gL M 110 = 600) (l16 : gL M 116 = 2700) (hk : k < 16) (hi : i < q.length) (hC : CT M 116 q (k + 1) 0) :
    ∀ (d c F : Nat), c + d = 4 → d < F → fx (fun (k : Int32 × Int32 × Int32 × Int64 × Int32 × MS → Option (MS × Unit)) (i : Int32 × Int32 × Int32 × Int64 × Int32 × MS) => m_Mo_count_54b k35 k43 k i.1 i.2.1 i.2.2.1 i.2.2.2.1 i.2.2.2.2.1 i.2.2.2.2.2) F (l1, Int32.ofNat (k + 1), Int32.ofNat i, Int64.ofNat (s4 (fun d => cw (DS d (q.getD i [])) k) c), Int32.ofNat c, M) = m_Mo_count_95 k35 k43 l1 (Int32.ofNat (k + 1)) (Int32.ofNat i) (Int64.ofNat (cw (q.getD i []) (k + 1))) M := by
  have hl := hm.2.1
  intro d
  induction d with
  | zero =>
    intro c F h1 h2
    have hc : c = 4 := by omega
    subst hc
    cases F with
    | zero => omega
    | succ F =>
      show m_Mo_count_54b k35 k43 _ l1 (Int32.ofNat (k + 1)) (Int32.ofNat i) _ (Int32.ofNat 4) M = _
      unfold m_Mo_count_54b
      rw [if_pos (by decide), cw_s4]
  | succ d ih =>
    intro c F h1 h2
    cases F with
    | zero => omega
    | succ F =>
      show m_Mo_count_54b k35 k43 _ l1 (Int32.ofNat (k + 1)) (Int32.ofNat i) _ (Int32.ofNat c) M = _
      unfold m_Mo_count_54b
      obtain ⟨n1, n2⟩ := hm.nx hi (c := c) (by omega)
      have e1 := (hX i hi).2 c (by omega)
      have e2 := hC k _ n1 (by omega)
      rw [if_neg (by rw [show (4 : Int32) = Int32.ofNat 4 from rfl, i_le_of (by omega) (by omega)]; omega), show (4 : Int32) = Int32.ofNat 4 from rfl, i_mul_of, i_add_of, ld_of (by omega) (by omega), e1]
      simp only [Option.bind_some]
      rw [i_pred (by omega) (by omega), Nat.add_sub_cancel, show (150 : Int32) = Int32.ofNat 150 from rfl, i_mul_of, i_add_of, ld_ofJ (by omega) (by omega), e2, n2]
      simp only [Option.bind_some]
      rw [l_add_of, i_inc]
      exact ih (c + 1) F (by omega) (by omega)
theorem r_count43 {M0 : MS} {t : List Nat} {q : List (List Nat)} {k35 : Int32 × Int32 × MS → Option (MS × Unit)} {k : Nat} {Q : MS × Unit → Prop} (hm : Mch t q) (hX : XM M0 q) (l10 : gL M0 110 = 600) (l16 : gL M0 116 = 2700) (hk : k < 16) (hK : ∀ M, CT M 116 q (k + 2) 0 → Fr [116] [] M0 M → Ok (k35 (Int32.ofNat q.length, Int32.ofNat (k + 2), M)) Q) (M : MS) (hC : CT M 116 q (k + 1) 0) (hf : Fr [116] [] M0 M) :
    Ok (m_Mo_count_43 k35 (Int32.ofNat q.length, Int32.ofNat (k + 1), 0, M)) Q := by
  have hl := hm.2.1
  unfold m_Mo_count_43
  refine ok_fx (inv := fun z => ∃ i M, z = (Int32.ofNat q.length, Int32.ofNat (k + 1), Int32.ofNat i, M) ∧ i ≤ q.length ∧ CT M 116 q (k + 1) i ∧ Fr [116] [] M0 M) (μ := fun z => 150 - z.2.2.1.toInt.toNat) ?_ _ ⟨0, M, rfl, by omega, hC, hf⟩ (by unfold FU; omega)
  intro k43 z hz ih
  obtain ⟨i, M, rfl, hi, hC, hf⟩ := hz
  show Ok (m_Mo_count_43b k35 k43 (Int32.ofNat q.length) (Int32.ofNat (k + 1)) (Int32.ofNat i) M) _
  unfold m_Mo_count_43b
  by_cases h : i = q.length
  · rw [if_pos (by rw [h]; exact Int32.le_refl _), i_inc]
    refine hK M (fun m j hj hmj => hC m j hj ?_) hf
    omega
  · rw [if_neg (by rw [i_le_of (by omega) (by omega)]; omega)]
    have hil : i < q.length := by omega
    have hXM := hX.fr hf (by decide) (by decide)
    have h54 := r_count54 (M := M) (k35 := k35) (k43 := k43) (l1 := Int32.ofNat q.length) hm hXM (by rw [hf.ln]; exact l10) (by rw [hf.ln]; exact l16) hk hil (fun m j hj hmj => hC m j hj (by omega)) 4 0 FU (by omega) (by unfold FU; omega)
    refine ok_eq h54 ?_
    unfold m_Mo_count_95
    rw [show (150 : Int32) = Int32.ofNat 150 from rfl, i_mul_of, i_add_of, st_ofJ (by rw [hf.ln]; omega) (by omega), i_inc]
    simp only [Option.bind_some]
    refine ih (Int32.ofNat q.length, Int32.ofNat (k + 1), Int32.ofNat (i + 1), sJ M 116 (150 * (k + 1) + i) (Int64.ofNat (cw (q.getD i []) (k + 1)))) ⟨i + 1, _, rfl, by omega, fun m j hj hmj => ?_, hf.tr (Fr.stJ (by decide))⟩ (by show 150 - (Int32.ofNat (i + 1)).toInt.toNat < 150 - (Int32.ofNat i).toInt.toNat; rw [i_of (by omega), i_of (by omega)]; omega)
    rw [gJ_sJ]
    by_cases he : m = k + 1 ∧ j = i
    · rw [if_pos (by rw [he.1, he.2]; exact ⟨rfl, rfl⟩), he.1, he.2]
    · rw [if_neg (by omega)]
      exact hC m j hj (by omega)
theorem r_count {M : MS} {t : List Nat} {q : List (List Nat)} (hm : Mch t q) (hX : XM M q) (l10 : gL M 110 = 600) (l14 : gL M 114 = 150) (l16 : gL M 116 = 2700) :
    Ok (m_Mo_count (Int32.ofNat q.length) M) (fun r => CT r.1 116 q 17 0 ∧ Fr [116] [] M r.1) := by
  have hl := hm.2.1
  unfold m_Mo_count m_Mo_count_2
  refine ok_fx (inv := fun z => ∃ i M1, z = (Int32.ofNat q.length, Int32.ofNat i, M1) ∧ i ≤ q.length ∧ CT M1 116 q 0 i ∧ Fr [116] [] M M1) (μ := fun z => 150 - z.2.1.toInt.toNat) ?_ _ ⟨0, M, rfl, by omega, fun m j hj hmj => by omega, Fr.rf⟩ (by unfold FU; omega)
  intro k2 z hz ih
  obtain ⟨i, M1, rfl, hi, hC, hf⟩ := hz
  have hXM := hX.fr hf (by decide) (by decide)
  show Ok (m_Mo_count_2b k2 (Int32.ofNat q.length) (Int32.ofNat i) M1) _
  unfold m_Mo_count_2b
  by_cases h : i = q.length
  · rw [if_pos (by rw [h]; exact Int32.le_refl _)]
    unfold m_Mo_count_35
    refine ok_fx (inv := fun z => ∃ k M1, z = (Int32.ofNat q.length, Int32.ofNat (k + 1), M1) ∧ k ≤ 16 ∧ CT M1 116 q (k + 1) 0 ∧ Fr [116] [] M M1) (μ := fun z => 18 - z.2.1.toInt.toNat) ?_ _ ⟨0, M1, rfl, by omega, fun m j hj hmj => hC m j hj (by omega), hf⟩ (by unfold FU; omega)
    intro k35 z hz ih2
    obtain ⟨k, M2, rfl, hk, hC2, hf2⟩ := hz
    show Ok (m_Mo_count_35b k35 (Int32.ofNat q.length) (Int32.ofNat (k + 1)) M2) _
    unfold m_Mo_count_35b
    by_cases hk16 : k = 16
    · rw [if_pos (by rw [hk16]; decide)]
      refine ok_some ⟨?_, hf2⟩
      rw [hk16] at hC2
      exact hC2
    · rw [if_neg (by rw [show (16 : Int32) = Int32.ofNat 16 from rfl, i_lt_of (by omega) (by omega)]; omega)]
      exact r_count43 hm hX l10 l16 (by omega) (fun M3 hC3 hf3 => ih2 (Int32.ofNat q.length, Int32.ofNat (k + 1 + 1), M3) ⟨k + 1, M3, rfl, by omega, hC3, hf3⟩ (by show 18 - (Int32.ofNat (k + 1 + 1)).toInt.toNat < 18 - (Int32.ofNat (k + 1)).toInt.toNat; rw [i_of (by omega), i_of (by omega)]; omega)) M2 hC2 hf2
  · have hil : i < q.length := by omega
    rw [if_neg (by rw [i_le_of (by omega) (by omega)]; omega), ld_of (by rw [hf.ln]; omega) (by omega), (hXM i hil).1]
    simp only [Option.bind_some]
    have hput : ∀ v : Int64, v = Int64.ofNat (cw (q.getD i []) 0) → Ok (m_Mo_count_26 k2 (Int32.ofNat q.length) (Int32.ofNat i) (Int32.ofNat i) v M1) (fun r => CT r.1 116 q 17 0 ∧ Fr [116] [] M r.1) := by
      intro v hv
      unfold m_Mo_count_26
      rw [st_ofJ (by rw [hf.ln]; omega) (by omega), i_inc]
      simp only [Option.bind_some]
      refine ih (Int32.ofNat q.length, Int32.ofNat (i + 1), sJ M1 116 i v) ⟨i + 1, _, rfl, by omega, fun m j hj hmj => ?_, hf.tr (Fr.stJ (by decide))⟩ (by show 150 - (Int32.ofNat (i + 1)).toInt.toNat < 150 - (Int32.ofNat i).toInt.toNat; rw [i_of (by omega), i_of (by omega)]; omega)
      rw [gJ_sJ]
      have hm0 : m = 0 := by omega
      subst hm0
      by_cases he : j = i
      · subst he
        rw [if_pos ⟨rfl, by omega⟩, hv]
      · rw [if_neg (by omega)]
        exact hC 0 j hj (by omega)
    cases hN : NS (q.getD i []) with
    | true =>
      rw [if_neg (by decide)]
      exact hput 1 (by unfold cw; rw [if_pos hN]; rfl)
    | false =>
      rw [if_pos (by decide)]
      exact hput 0 (by unfold cw; rw [hN]; rfl)
/-- what follows an explore of a slot -/
theorem explore_then {S : Nat → List Nat} {W : Option (List Nat)} {M : MS} {a : Nat} {β : Type} (hI : RI S W M) (ha : a < 16) {k : MS × Int32 → Option (MS × β)} {G : Option (MS × β) → Prop}
    (hbig : Big (S a) → ∀ M1, RI S W M1 → Fr RE FD M M1 → G (k (M1, -1))) (hm : ∀ q M1, Mch (S a) q → XM M1 q → RI S W M1 → Fr RE FD M M1 → G (k (M1, Int32.ofNat q.length))) :
    G (cal cM M (m_Mo_explore (Int32.ofNat a) M) k) := by
  obtain ⟨r, e1, e2⟩ := r_explore hI ha
  rcases e2 with ⟨g1, g2, g3⟩ | ⟨q, g1, g2, g3, g4⟩
  · rw [cal_some e1 g3.le.1 g3.le.2]
    have := hbig g2 r.1 (hI.fr g3 (by decide) (by decide) (by decide) (by decide)) g3
    rw [← g1] at this
    exact this
  · rw [cal_some e1 g4.le.1 g4.le.2]
    have := hm q r.1 g2 g3 (hI.fr g4 (by decide) (by decide) (by decide) (by decide)) g4
    rw [← g1] at this
    exact this
theorem FrE {M M1 : MS} (h : Fr RE FD M M1) : FrR M M1 := h.toR (by decide) (by decide)
theorem ThE {M M1 : MS} (h : Fr RE FD M M1) : gI M1 97 0 = gI M 97 0 := h.gi (by decide)
/-- a call of the reference answers one of these -/
def RX (S : Nat → List Nat) (W : Option (List Nat)) (M : MS) {β : Type} (x : Option (MS × β)) (P : β → Prop) : Prop := ∃ v, RA S W M x v 0 ∧ P v
def StV (t : List Nat) (v : Int32) : Prop := (Big t ∧ v = -1) ∨ (∃ q, Mch t q ∧ v = Int32.ofNat q.length)
theorem Mch.len {t : List Nat} {q p : List (List Nat)} (h : Mch t q) (h2 : Mch t p) (hq : ∀ u ∈ q, Rc t u) (hp : ∀ u ∈ p, Rc t u) : q.length = p.length := Nat.le_antisymm (nodup_le q p h.1 (fun x hx => h2.all x (hq x hx))) (nodup_le p q h2.1 (fun x hx => h.all x (hp x hx)))
theorem Mch.rc {t : List Nat} {q : List (List Nat)} (h : Mch t q) : ∀ i, i < q.length → Rc t (q.getD i []) := by
  intro i
  induction i using Nat.strongRecOn with
  | ind i ih =>
    intro hi
    by_cases h0 : i = 0
    · rw [h0, h.pos.2]
      exact Rc.rf t
    · obtain ⟨j, hj, c, hc, he⟩ := h.2.2.2.2.2 i (by omega) hi
      rw [← he]
      exact (ih j hj (by omega)).step hc
theorem Mch.rcm {t : List Nat} {q : List (List Nat)} (h : Mch t q) : ∀ u ∈ q, Rc t u := fun u hu => by
  obtain ⟨h1, h2⟩ := ix_mem hu
  have := h.rc _ h1
  rw [h2] at this
  exact this
theorem StV.one {t : List Nat} {v w : Int32} (h : StV t v) (h2 : StV t w) : v = w := by
  rcases h with ⟨a, b⟩ | ⟨q, a, b⟩ <;> rcases h2 with ⟨c, d⟩ | ⟨p, c, d⟩
  · rw [b, d]
  · exact absurd a c.nBig
  · exact absurd c a.nBig
  · rw [b, d, a.len c a.rcm c.rcm]
theorem r_states_bad {S : Nat → List Nat} {W : Option (List Nat)} {M : MS} {a : Int32} (hI : RI S W M) (h : slB a = false) : RA S W M (m_Mo_states a M) 0 1 := by
  have e : m_Mo_states a M = some (sI M 97 0 1, 0) := by
    simp only [m_Mo_states, m_Mo_states_13, r_isSlot, cal_same, h, b01_f, i10, not_true_eq_false, if_false, r_fail1, cal_sI]
  rw [e]
  exact RA.fail hI _ _
theorem r_states {S : Nat → List Nat} {W : Option (List Nat)} {M : MS} {a : Nat} (hI : RI S W M) (ha : a < 16) : RX S W M (m_Mo_states (Int32.ofNat a) M) (StV (S a)) := by
  have e : m_Mo_states (Int32.ofNat a) M = m_Mo_states_13 (Int32.ofNat a) 0 M := by
    simp only [m_Mo_states, r_isSlot, cal_same, slB_nat ha, b01_t, i10, not_false_eq_true, if_true]
  rw [e]
  unfold m_Mo_states_13
  rw [r_fail0, cal_sI, if_pos (by show (0 : Int32) = 0; decide)]
  have hI0 := hI.thr 0
  have hth : gI (sI M 97 0 0) 97 0 = 0 := by rw [gI_sI, if_pos ⟨rfl, rfl⟩]
  have hF0 : FrR M (sI M 97 0 0) := FrR.thr 0
  generalize sI M 97 0 0 = M1 at hI0 hth hF0
  refine explore_then hI0 ha (G := fun x => RX S W M x (StV (S a))) (fun hb M2 hI2 hf => ?_) (fun q M2 hm hX hI2 hf => ?_)
  · exact ⟨-1, ⟨M2, rfl, hI2, hF0.tr (FrE hf), by rw [ThE hf]; exact hth⟩, Or.inl ⟨hb, rfl⟩⟩
  · exact ⟨_, ⟨M2, rfl, hI2, hF0.tr (FrE hf), by rw [ThE hf]; exact hth⟩, Or.inr ⟨q, hm, rfl⟩⟩
theorem r_words_bad1 {S : Nat → List Nat} {W : Option (List Nat)} {M : MS} {a b : Int32} (hI : RI S W M) (h : slB a = false) : RA S W M (m_Mo_words a b M) 0 1 := by
  have e : m_Mo_words a b M = some (sI M 97 0 1, 0) := by
    simp only [m_Mo_words, m_Mo_words_15, m_Mo_words_33, m_Mo_words_34, r_isSlot, cal_same, h, b01_f, i10, not_true_eq_false, if_false, if_true, r_fail1, cal_sI]
  rw [e]
  exact RA.fail hI _ _
theorem r_words_bad2 {S : Nat → List Nat} {W : Option (List Nat)} {M : MS} {a b : Int32} (hI : RI S W M) (h : slB a = true) (hb : b.toInt < 0 ∨ 16 < b.toInt) : RA S W M (m_Mo_words a b M) 0 2 := by
  have e : m_Mo_words a b M = some (sI M 97 0 2, 0) := by
    by_cases h4 : b < 0
    · simp only [m_Mo_words, m_Mo_words_15, m_Mo_words_29, m_Mo_words_34, r_isSlot, cal_same, h, h4, b01_t, i10, not_false_eq_true, if_false, if_true, r_fail2, cal_sI]
    · have h5 : ¬ b ≤ 16 := by
        rw [i_lt, i_0] at h4
        rw [i_le, i_16]
        omega
      simp only [m_Mo_words, m_Mo_words_15, m_Mo_words_29, m_Mo_words_34, r_isSlot, cal_same, h, h4, h5, b01_t, i10, not_false_eq_true, if_false, if_true, r_fail2, cal_sI]
  rw [e]
  exact RA.fail hI _ _
def WdV (t : List Nat) (n : Nat) (v : Int64) : Prop := (Big t ∧ v = -1) ∨ (¬ Big t ∧ v = Int64.ofNat (cw t n))
theorem i_nm1 {n : Nat} (h : n < 2147483648) : ¬ Int32.ofNat n = (-1 : Int32) := by
  rw [i_eq, i_of h, i_m1]
  omega
theorem r_words {S : Nat → List Nat} {W : Option (List Nat)} {M : MS} {a n : Nat} (hI : RI S W M) (ha : a < 16) (hn : n ≤ 16) : RX S W M (m_Mo_words (Int32.ofNat a) (Int32.ofNat n) M) (WdV (S a) n) := by
  have n1 : ¬ Int32.ofNat n < 0 := by rw [i_lt, i_of (by omega), i_0]; omega
  have n2 : Int32.ofNat n ≤ 16 := by rw [i_le, i_of (by omega), i_16]; omega
  have e : m_Mo_words (Int32.ofNat a) (Int32.ofNat n) M = m_Mo_words_34 (Int32.ofNat a) (Int32.ofNat n) 0 0 M := by
    simp only [m_Mo_words, m_Mo_words_15, m_Mo_words_33, r_isSlot, cal_same, slB_nat ha, n1, n2, b01_t, i10, not_false_eq_true, if_true, if_false]
  rw [e]
  unfold m_Mo_words_34
  rw [r_fail0, cal_sI, if_pos (by show (0 : Int32) = 0; decide)]
  have hI0 := hI.thr 0
  have hth : gI (sI M 97 0 0) 97 0 = 0 := by rw [gI_sI, if_pos ⟨rfl, rfl⟩]
  have hF0 : FrR M (sI M 97 0 0) := FrR.thr 0
  generalize sI M 97 0 0 = M1 at hI0 hth hF0
  refine explore_then hI0 ha (G := fun x => RX S W M x (WdV (S a) n)) (fun hb M2 hI2 hf => ?_) (fun q M2 hm hX hI2 hf => ?_)
  · rw [if_neg (by show ¬ ¬ (-1 : Int32) = -1; decide)]
    exact ⟨-1, ⟨M2, rfl, hI2, hF0.tr (FrE hf), by rw [ThE hf]; exact hth⟩, Or.inl ⟨hb, rfl⟩⟩
  · have hql := hm.2.1
    rw [if_pos (i_nm1 (by omega))]
    obtain ⟨-, -, ⟨-, -, l10, -, -, -, l14, -⟩, ⟨l16, -⟩⟩ := hI2.1
    obtain ⟨r, c1, c2, c3⟩ := r_count hm hX l10 l14 l16
    rw [cal_some c1 c3.le.1 c3.le.2]
    rw [show (150 : Int32) = Int32.ofNat 150 from rfl, i_mul_of, ld_ofJ (by rw [c3.ln]; omega) (by omega)]
    simp only [Option.bind_some]
    have hv := c2 n 0 hm.pos.1 (by omega)
    rw [hm.pos.2, Nat.add_zero] at hv
    rw [hv]
    refine ⟨_, ⟨r.1, rfl, hI2.fr c3 (by decide) (by decide) (by decide) (by decide), (hF0.tr (FrE hf)).tr (c3.toR (by decide) (by decide)), ?_⟩, Or.inr ⟨hm.nBig, rfl⟩⟩
    rw [c3.gi (by decide), ThE hf]
    exact hth
theorem WdV.one {t : List Nat} {n : Nat} {v w : Int64} (h : WdV t n v) (h2 : WdV t n w) : v = w := by
  rcases h with ⟨a, b⟩ | ⟨a, b⟩ <;> rcases h2 with ⟨c, d⟩ | ⟨c, d⟩
  · rw [b, d]
  · exact absurd a c
  · exact absurd c a
  · rw [b, d]
