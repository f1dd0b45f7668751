/-! STEP 2, the class: tidy: marks and numbers -/
/-- a loop that counts up, with what holds at its head -/
theorem lp {ι β S : Type} {b : (ι → Option β) → ι → Option β} (mk : Nat → S → ι) (Inv : Nat → S → Prop) (out : S → Option β) {n : Nat}
    (hs : ∀ k i s, i < n → Inv i s → ∃ s', Inv (i + 1) s' ∧ b k (mk i s) = k (mk (i + 1) s')) (he : ∀ k s, Inv n s → b k (mk n s) = out s) :
    ∀ (d i : Nat) (s : S) (F : Nat), i + d = n → d < F → Inv i s → ∃ s', Inv n s' ∧ fx b F (mk i s) = out s' := by
  intro d
  induction d with
  | zero =>
    intro i s F e hF hI
    cases F with
    | zero => omega
    | succ F =>
      have e : i = n := by omega
      subst e
      exact ⟨s, hI, he _ s hI⟩
  | succ d ih =>
    intro i s F e hF hI
    cases F with
    | zero => omega
    | succ F =>
      obtain ⟨s', h1, h2⟩ := hs (fx b F) i s (by omega) hI
      obtain ⟨s2, h3, h4⟩ := ih (i + 1) s' F (by omega) (by omega) h1
      exact ⟨s2, h3, h2.trans h4⟩
theorem lp0 {ι β S : Type} {b : (ι → Option β) → ι → Option β} (mk : Nat → S → ι) (Inv : Nat → S → Prop) (out : S → Option β) {n : Nat}
    (hs : ∀ k i s, i < n → Inv i s → ∃ s', Inv (i + 1) s' ∧ b k (mk i s) = k (mk (i + 1) s')) (he : ∀ k s, Inv n s → b k (mk n s) = out s) (s : S) (hn : n < 1000000000) (h0 : Inv 0 s) : ∃ s', Inv n s' ∧ fx b FU (mk 0 s) = out s' :=
  lp mk Inv out hs he n 0 s FU (Nat.zero_add n) (by unfold FU; omega) h0
theorem c_fill {M : MS} {a : Nat} {v : Int32} (ha : x_kd a = 20 ∨ x_kd a = 21) (hl : gL M a < 1000000000) : ∃ M1, m_Arr_fill a v M = some (M1, ()) ∧ Fr [a] [] M M1 ∧ ∀ p, gA M1 a p = if p < gL M a then v else gA M a p := by
  obtain ⟨M1, ⟨h1, h2⟩, h3⟩ := lp0 (b := fun (k : Nat × Int32 × Int32 × Int32 × MS → Option (MS × Unit)) (i : Nat × Int32 × Int32 × Int32 × MS) => m_Arr_fill_5b k i.1 i.2.1 i.2.2.1 i.2.2.2.1 i.2.2.2.2) (fun i M' => (a, v, Int32.ofNat i, Int32.ofNat (gL M a), M')) (fun i M' => Fr [a] [] M M' ∧ ∀ p, gA M' a p = if p < i then v else gA M a p) (fun M' => some (M', ())) (n := gL M a) (by
    intro k i M' hi ⟨h1, h2⟩
    refine ⟨sA M' a i v, ⟨h1.tr (Fr.stA (by simp)), fun p => ?_⟩, ?_⟩
    · rw [gA_sA, h2]
      by_cases hp : p = i
      · rw [if_pos ⟨rfl, hp⟩, if_pos (by omega)]
      · rw [if_neg (by omega)]
        by_cases hp2 : p < i
        · rw [if_pos hp2, if_pos (by omega)]
        · rw [if_neg hp2, if_neg (by omega)]
    · show m_Arr_fill_5b k a v (Int32.ofNat i) (Int32.ofNat (gL M a)) M' = _
      unfold m_Arr_fill_5b
      rw [if_neg (by rw [i_le_of (by omega) (by omega)]; omega), st_of (by rw [h1.ln]; exact hi) (by omega), Option.bind_some, i_inc]) (by
    intro k M' _
    show m_Arr_fill_5b k a v (Int32.ofNat (gL M a)) (Int32.ofNat (gL M a)) M' = _
    unfold m_Arr_fill_5b
    rw [if_pos (Int32.le_refl _)]) M hl ⟨Fr.rf, fun p => by rw [if_neg (by omega)]⟩
  refine ⟨M1, ?_, h1, h2⟩
  unfold m_Arr_fill
  rw [if_pos ha]
  exact h3
theorem c_markRow {M : MS} {a n : Nat} {l : Nat → Nat} (ha : x_kd a = 20) (ha2 : a ≠ 11) (hn : n ≤ gL M a) (hn2 : n < 1000000000) (h11 : gL M 11 < 1000000000) (hl : ∀ j, j < n → gA M a j = Int32.ofNat (l j) ∧ l j < gL M 11) :
    ∃ M1, m_Terms_markRow a (Int32.ofNat n) M = some (M1, ()) ∧ Fr [11] [] M M1 ∧ (∀ p, gA M 11 p ≠ -1 → gA M1 11 p ≠ -1) ∧ (∀ j, j < n → gA M1 11 (l j) ≠ -1) ∧ (∀ p, gA M1 11 p ≠ -1 → gA M 11 p ≠ -1 ∨ ∃ j, j < n ∧ p = l j) := by
  obtain ⟨M1, ⟨h1, h2, h3, h4⟩, h5⟩ := lp0 (b := fun (k : Nat × Int32 × Int32 × MS → Option (MS × Unit)) (i : Nat × Int32 × Int32 × MS) => m_Terms_markRow_2b k i.1 i.2.1 i.2.2.1 i.2.2.2) (fun i M' => (a, Int32.ofNat n, Int32.ofNat i, M')) (fun i M' => Fr [11] [] M M' ∧ (∀ p, gA M 11 p ≠ -1 → gA M' 11 p ≠ -1) ∧ (∀ j, j < i → gA M' 11 (l j) ≠ -1) ∧ (∀ p, gA M' 11 p ≠ -1 → gA M 11 p ≠ -1 ∨ ∃ j, j < i ∧ p = l j)) (fun M' => some (M', ())) (n := n) (by
    intro k i M' hi ⟨h1, h2, h3, h4⟩
    obtain ⟨e1, e2⟩ := hl i hi
    have hne : Int32.ofNat (l i) ≠ -1 := i_nm1 (by omega)
    refine ⟨sA M' 11 (l i) (Int32.ofNat (l i)), ⟨h1.tr (Fr.stA (by simp)), fun p hp => ?_, fun j hj => ?_, fun p hp => ?_⟩, ?_⟩
    · rw [gA_sA]
      by_cases hc : p = l i
      · rw [if_pos ⟨rfl, hc⟩]; exact hne
      · rw [if_neg (fun q => hc q.2)]; exact h2 p hp
    · rw [gA_sA]
      by_cases hc : l j = l i
      · rw [if_pos ⟨rfl, hc⟩]; exact hne
      · rw [if_neg (fun q => hc q.2)]
        refine h3 j ?_
        have : j ≠ i := fun q => hc (by rw [q])
        omega
    · rw [gA_sA] at hp
      by_cases hc : p = l i
      · exact Or.inr ⟨i, by omega, hc⟩
      · rw [if_neg (fun q => hc q.2)] at hp
        rcases h4 p hp with q | ⟨j, q1, q2⟩
        · exact Or.inl q
        · exact Or.inr ⟨j, by omega, q2⟩
    · show m_Terms_markRow_2b k a (Int32.ofNat n) (Int32.ofNat i) M' = _
      unfold m_Terms_markRow_2b
      rw [if_neg (by rw [i_le_of (by omega) (by omega)]; omega), ld_of (by rw [h1.ln]; omega) (by omega), h1.ga (by simpa using ha2), e1, Option.bind_some, Option.bind_some, st_of (by rw [h1.ln]; omega) (by omega), Option.bind_some, i_inc]) (by
    intro k M' _
    show m_Terms_markRow_2b k a (Int32.ofNat n) (Int32.ofNat n) M' = _
    unfold m_Terms_markRow_2b
    rw [if_pos (Int32.le_refl _)]) M hn2 ⟨Fr.rf, fun p hp => hp, fun j hj => absurd hj (by omega), fun p hp => Or.inl hp⟩
  refine ⟨M1, ?_, h1, h2, h3, h4⟩
  unfold m_Terms_markRow
  rw [if_pos ha]
  exact h5
theorem TI.f11 {g : TG} {M M1 : MS} (h : TI g M) (hf : Fr [11] [] M M1) : TI g M1 := by
  refine h.fc (FC.of hf) (fun a h1 h2 => ?_) ⟨by rw [hf.ln], by rw [hf.ln]⟩ (by simp) (by simp)
  by_cases ha : a = 11
  · exact Or.inr ha
  · exact Or.inl (by simpa using ha)
/-- the kids of one marked term -/
theorem c_markKids15 {g : TG} {M : MS} {t : Nat} (h : TI g M) (h18 : 18 ≤ t) (ht : t < tU g) (k7 : Int32 × MS → Option (MS × Unit)) :
    ∃ M1, m_Terms_markKids_15 k7 (Int32.ofNat t, 0, M) = k7 (Int32.ofNat (t - 1), M1) ∧ Fr [11] [] M M1 ∧ ∀ p, gA M1 11 p = if gA M 11 t ≠ -1 ∧ p ∈ tkd g t then Int32.ofNat t else gA M 11 p := by
  have hlt := h.2.1.lt
  obtain ⟨-, ⟨m3, m4⟩, ⟨l4, l5, l6, l7, l8, l9, l10, l11, -⟩, ⟨k1, k2, k3⟩, mi⟩ := h.2.1
  obtain ⟨-, -, -, -, a7, a8, -⟩ := mi t ht
  have hr := rooms_le m4
  by_cases hm : gA M 11 t = -1
  · refine ⟨M, ?_, Fr.rf, fun p => by rw [if_neg (fun q => q.1 hm)]⟩
    unfold m_Terms_markKids_15
    show m_Terms_markKids_15b k7 _ (Int32.ofNat t) 0 M = _
    unfold m_Terms_markKids_15b
    rw [ld_of (by omega) (by omega), Option.bind_some, if_pos hm, i_dec (by omega) (by omega)]
  · obtain ⟨M1, ⟨h1, h2⟩, h3⟩ := lp0 (b := fun (k : Int32 × Int32 × MS → Option (MS × Unit)) (i : Int32 × Int32 × MS) => m_Terms_markKids_15b k7 k i.1 i.2.1 i.2.2) (fun i M' => (Int32.ofNat t, Int32.ofNat i, M')) (fun i M' => Fr [11] [] M M' ∧ ∀ p, gA M' 11 p = if p ∈ (tkd g t).take i then Int32.ofNat t else gA M 11 p) (fun M' => k7 (Int32.ofNat (t - 1), M')) (n := (tkd g t).length) (by
      intro k i M' hi ⟨h1, h2⟩
      have hI := h.f11 h1
      have hkt : (tkd g t).getD i 0 < t := h.1.kids ht _ (by rw [List.getD_eq_getElem?_getD, List.getElem?_eq_getElem hi]; exact List.getElem_mem hi)
      have htt : gA M' 11 t = gA M 11 t := by
        rw [h2, if_neg (fun q => by have := h.1.kids ht t (List.mem_of_mem_take q); omega)]
      refine ⟨sA M' 11 ((tkd g t).getD i 0) (Int32.ofNat t), ⟨h1.tr (Fr.stA (by simp)), fun p => ?_⟩, ?_⟩
      · have e : (tkd g t).take (i + 1) = (tkd g t).take i ++ [(tkd g t).getD i 0] := by
          rw [List.take_add_one, List.getD_eq_getElem?_getD, List.getElem?_eq_getElem hi]
          rfl
        rw [gA_sA, e, h2]
        by_cases hc : p = (tkd g t).getD i 0
        · rw [if_pos ⟨rfl, hc⟩, if_pos (by rw [hc]; simp)]
        · rw [if_neg (fun q => hc q.2)]
          by_cases hq : p ∈ (tkd g t).take i
          · rw [if_pos hq, if_pos (List.mem_append_left _ hq)]
          · rw [if_neg hq, if_neg (fun q => by
              rcases List.mem_append.mp q with q | q
              · exact hq q
              · exact hc (List.mem_singleton.mp q))]
      · show m_Terms_markKids_15b k7 k (Int32.ofNat t) (Int32.ofNat i) M' = _
        unfold m_Terms_markKids_15b
        rw [ld_of (by rw [h1.ln]; omega) (by omega), Option.bind_some, htt, if_neg hm, ld_of (by rw [h1.ln]; omega) (by omega), h1.ga (by decide), a7, Option.bind_some, if_neg (by rw [i_le_of (by omega) (by omega)]; omega), c_kid hI ht hi, cal_same, st_of (by show _ < gL M' 11; rw [h1.ln]; omega) (by omega), Option.bind_some, i_inc]) (by
      intro k M' ⟨h1, h2⟩
      have htt : gA M' 11 t = gA M 11 t := by
        rw [h2, if_neg (fun q => by have := h.1.kids ht t (List.mem_of_mem_take q); omega)]
      show m_Terms_markKids_15b k7 k (Int32.ofNat t) (Int32.ofNat (tkd g t).length) M' = _
      unfold m_Terms_markKids_15b
      rw [ld_of (by rw [h1.ln]; omega) (by omega), Option.bind_some, htt, if_neg hm, ld_of (by rw [h1.ln]; omega) (by omega), h1.ga (by decide), a7, Option.bind_some, if_pos (Int32.le_refl _), i_dec (by omega) (by omega)]) M (by omega) ⟨Fr.rf, fun p => by rw [if_neg (by simp)]⟩
    refine ⟨M1, h3, h1, fun p => ?_⟩
    rw [h2, List.take_length]
    by_cases hc : p ∈ tkd g t
    · rw [if_pos hc, if_pos ⟨hm, hc⟩]
    · rw [if_neg hc, if_neg (fun q => hc q.2)]
def KC (g : TG) (P : Nat → Prop) : Prop := ∀ i, i < tU g → P i → ∀ k ∈ tkd g i, P k
theorem c_markKids {g : TG} {M : MS} (h : TI g M) : ∃ M1, m_Terms_markKids M = some (M1, ()) ∧ Fr [11] [] M M1 ∧ (∀ p, gA M 11 p ≠ -1 → gA M1 11 p ≠ -1) ∧ (∀ i, 18 ≤ i → i < tU g → gA M1 11 i ≠ -1 → ∀ k ∈ tkd g i, gA M1 11 k ≠ -1) ∧ (∀ P : Nat → Prop, KC g P → (∀ p, gA M 11 p ≠ -1 → P p) → ∀ p, gA M1 11 p ≠ -1 → P p) := by
  have hlt := h.2.1.lt
  have hU18 := h.1.1
  have m1 := h.2.1.1.1
  obtain ⟨M1, ⟨h1, h2, h3, h4⟩, h5⟩ := lp0 (b := fun (k : Int32 × MS → Option (MS × Unit)) (i : Int32 × MS) => m_Terms_markKids_7b k i.1 i.2) (fun i M' => (Int32.ofNat (tU g - 1 - i), M')) (fun i M' => Fr [11] [] M M' ∧ (∀ p, gA M 11 p ≠ -1 → gA M' 11 p ≠ -1) ∧ (∀ j, tU g - i ≤ j → j < tU g → gA M' 11 j ≠ -1 → ∀ k ∈ tkd g j, gA M' 11 k ≠ -1) ∧ (∀ P : Nat → Prop, KC g P → (∀ p, gA M 11 p ≠ -1 → P p) → ∀ p, gA M' 11 p ≠ -1 → P p)) (fun M' => some (M', ())) (n := tU g - 18) (by
    intro k i M' hi ⟨h1, h2, h3, h4⟩
    have ht : tU g - 1 - i < tU g := by omega
    obtain ⟨M2, a1, a2, a3⟩ := c_markKids15 (h.f11 h1) (t := tU g - 1 - i) (by omega) ht k
    have hmono : ∀ p, gA M' 11 p ≠ -1 → gA M2 11 p ≠ -1 := fun p hp => by
      rw [a3]
      split
      · exact i_nm1 (by omega)
      · exact hp
    refine ⟨M2, ⟨h1.tr a2, fun p hp => hmono p (h2 p hp), fun j hj1 hj2 hj3 c hc => ?_, fun P hP hQ p hp => ?_⟩, ?_⟩
    · have hjk : gA M2 11 j = gA M' 11 j := by
        rw [a3, if_neg (fun q => by have := h.1.kids ht j q.2; omega)]
      rw [hjk] at hj3
      by_cases he : j = tU g - 1 - i
      · rw [a3, if_pos ⟨by rw [← he]; exact hj3, by rw [← he]; exact hc⟩]
        exact i_nm1 (by omega)
      · exact hmono c (h3 j (by omega) hj2 hj3 c hc)
    · rw [a3] at hp
      split at hp
      · rename_i q
        exact hP _ ht (h4 P hP hQ _ q.1) p q.2
      · exact h4 P hP hQ p hp
    · show m_Terms_markKids_7b k (Int32.ofNat (tU g - 1 - i)) M' = _
      unfold m_Terms_markKids_7b
      rw [if_neg (by rw [show (18 : Int32) = Int32.ofNat 18 from rfl, i_lt_of (by omega) (by omega)]; omega), a1]
      rfl) (by
    intro k M' _
    show m_Terms_markKids_7b k (Int32.ofNat (tU g - 1 - (tU g - 18))) M' = _
    unfold m_Terms_markKids_7b
    rw [if_pos (by rw [show (18 : Int32) = Int32.ofNat 18 from rfl, i_lt_of (by omega) (by omega)]; omega)]) M (by omega) ⟨Fr.rf, fun p hp => hp, fun j hj1 hj2 => absurd hj1 (by omega), fun P hP hQ => hQ⟩
  refine ⟨M1, ?_, h1, h2, fun i hi1 hi2 => h3 i (by omega) hi2, h4⟩
  unfold m_Terms_markKids
  rw [m1, i_pred (by omega) (by omega)]
  exact h5
/-- how many are kept below -/
def rk (K : Nat → Bool) : Nat → Nat
  | 0 => 0
  | i + 1 => rk K i + (if K i = true then 1 else 0)
theorem rk_le (K : Nat → Bool) : ∀ i, rk K i ≤ i := by
  intro i
  induction i with
  | zero => exact Nat.le_refl _
  | succ i ih =>
    show rk K i + _ ≤ i + 1
    split <;> omega
theorem rk_mono (K : Nat → Bool) {i j : Nat} (h : i ≤ j) : rk K i ≤ rk K j := by
  induction j with
  | zero =>
    have : i = 0 := by omega
    rw [this]
    exact Nat.le_refl _
  | succ j ih =>
    by_cases he : i = j + 1
    · rw [he]; exact Nat.le_refl _
    · have := ih (by omega)
      show rk K i ≤ rk K j + _
      omega
theorem rk_lt {K : Nat → Bool} {i j : Nat} (h : i < j) (hi : K i = true) : rk K i < rk K j := by
  have h1 : rk K (i + 1) = rk K i + (if K i = true then 1 else 0) := rfl
  rw [if_pos hi] at h1
  have := rk_mono K (i := i + 1) (j := j) h
  omega
theorem rk_inj {K : Nat → Bool} {i j : Nat} (hi : K i = true) (hj : K j = true) (e : rk K i = rk K j) : i = j := by
  rcases Nat.lt_trichotomy i j with q | q | q
  · have := rk_lt q hi; omega
  · exact q
  · have := rk_lt q hj; omega
def kpt (M : MS) (i : Nat) : Bool := decide (i < 18) || decide (gA M 11 i ≠ -1)
theorem kpt_18 {M : MS} {i : Nat} (h : i < 18) : kpt M i = true := by
  unfold kpt
  rw [decide_eq_true h]
  rfl
theorem kpt_iff {M : MS} {i : Nat} (h : 18 ≤ i) : kpt M i = true ↔ gA M 11 i ≠ -1 := by
  unfold kpt
  rw [decide_eq_false (by omega)]
  simp
theorem rk_18 {M : MS} : ∀ i, i ≤ 18 → rk (kpt M) i = i := by
  intro i
  induction i with
  | zero => intro _; rfl
  | succ i ih =>
    intro hi
    show rk (kpt M) i + _ = i + 1
    rw [ih (by omega), if_pos (kpt_18 (by omega))]
theorem c_numberMarked {g : TG} {M : MS} (h : TI g M) : ∃ M1, m_Terms_numberMarked M = some (M1, ()) ∧ Fr [11] [] M M1 ∧ ∀ p, p < tU g → gA M1 11 p = if kpt M p = true then Int32.ofNat (rk (kpt M) p) else -1 := by
  have hlt := h.2.1.lt
  have hU18 := h.1.1
  have m1 := h.2.1.1.1
  obtain ⟨-, ⟨m3, m4⟩, ⟨l4, l5, l6, l7, l8, l9, l10, l11, -⟩, -⟩ := h.2.1
  obtain ⟨M1, ⟨h1, h2⟩, h5⟩ := lp0 (b := fun (k : Int32 × Int32 × MS → Option (MS × Unit)) (i : Int32 × Int32 × MS) => m_Terms_numberMarked_4b k i.1 i.2.1 i.2.2) (fun i M' => (Int32.ofNat (rk (kpt M) i), Int32.ofNat i, M')) (fun i M' => Fr [11] [] M M' ∧ ∀ p, gA M' 11 p = if p < i ∧ kpt M p = true then Int32.ofNat (rk (kpt M) p) else gA M 11 p) (fun M' => some (M', ())) (n := tU g) (by
    intro k i M' hi ⟨h1, h2⟩
    have hii : gA M' 11 i = gA M 11 i := by rw [h2, if_neg (by omega)]
    have hgi : gI M' 2 16 = Int32.ofNat (tU g) := by rw [h1.gi (by simp)]; exact m1
    by_cases hk : kpt M i = true
    · have hrk : rk (kpt M) (i + 1) = rk (kpt M) i + 1 := by
        show rk (kpt M) i + _ = _
        rw [if_pos hk]
      have e28 : m_Terms_numberMarked_28 k (Int32.ofNat (rk (kpt M) i)) (Int32.ofNat i) M' = k (Int32.ofNat (rk (kpt M) i + 1), Int32.ofNat (i + 1), sA M' 11 i (Int32.ofNat (rk (kpt M) i))) := by
        unfold m_Terms_numberMarked_28
        rw [st_of (by rw [h1.ln]; omega) (by omega), Option.bind_some, i_inc, i_inc]
      refine ⟨sA M' 11 i (Int32.ofNat (rk (kpt M) i)), ⟨h1.tr (Fr.stA (by simp)), fun p => ?_⟩, ?_⟩
      · rw [gA_sA, h2]
        by_cases hp : p = i
        · rw [if_pos ⟨rfl, hp⟩, hp, if_pos ⟨by omega, hk⟩]
        · rw [if_neg (fun q => hp q.2)]
          by_cases hq : p < i ∧ kpt M p = true
          · rw [if_pos hq, if_pos ⟨by omega, hq.2⟩]
          · rw [if_neg hq, if_neg (fun q => hq ⟨by omega, q.2⟩)]
      · show m_Terms_numberMarked_4b k (Int32.ofNat (rk (kpt M) i)) (Int32.ofNat i) M' = _
        unfold m_Terms_numberMarked_4b
        rw [hgi, if_neg (by rw [i_le_of (by omega) (by omega)]; omega), hrk]
        by_cases h18 : i < 18
        · rw [if_pos (by rw [show (18 : Int32) = Int32.ofNat 18 from rfl, i_lt_of (by omega) (by omega)]; exact h18), e28]
        · rw [if_neg (by rw [show (18 : Int32) = Int32.ofNat 18 from rfl, i_lt_of (by omega) (by omega)]; exact h18), ld_of (by rw [h1.ln]; omega) (by omega), Option.bind_some, hii, if_neg ((kpt_iff (by omega)).mp hk), e28]
    · have hrk : rk (kpt M) (i + 1) = rk (kpt M) i := by
        show rk (kpt M) i + _ = _
        rw [if_neg hk]
        rfl
      have h18 : ¬ i < 18 := fun q => hk (kpt_18 q)
      have hm : gA M 11 i = -1 := Classical.byContradiction (fun q => hk ((kpt_iff (by omega)).mpr q))
      refine ⟨M', ⟨h1, fun p => ?_⟩, ?_⟩
      · rw [h2]
        by_cases hq : p < i ∧ kpt M p = true
        · rw [if_pos hq, if_pos ⟨by omega, hq.2⟩]
        · rw [if_neg hq, if_neg (fun q => by
            by_cases hp : p = i
            · rw [hp] at q; exact hk q.2
            · exact hq ⟨by omega, q.2⟩)]
      · show m_Terms_numberMarked_4b k (Int32.ofNat (rk (kpt M) i)) (Int32.ofNat i) M' = _
        unfold m_Terms_numberMarked_4b
        rw [hgi, if_neg (by rw [i_le_of (by omega) (by omega)]; omega), if_neg (by rw [show (18 : Int32) = Int32.ofNat 18 from rfl, i_lt_of (by omega) (by omega)]; exact h18), ld_of (by rw [h1.ln]; omega) (by omega), Option.bind_some, hii, if_pos hm, hrk, i_inc]) (by
    intro k M' ⟨h1, h2⟩
    have hgi : gI M' 2 16 = Int32.ofNat (tU g) := by rw [h1.gi (by simp)]; exact m1
    show m_Terms_numberMarked_4b k (Int32.ofNat (rk (kpt M) (tU g))) (Int32.ofNat (tU g)) M' = _
    unfold m_Terms_numberMarked_4b
    rw [hgi, if_pos (Int32.le_refl _)]) M (by omega) ⟨Fr.rf, fun p => by rw [if_neg (by omega)]⟩
  refine ⟨M1, h5, h1, fun p hp => ?_⟩
  rw [h2]
  by_cases hk : kpt M p = true
  · rw [if_pos ⟨hp, hk⟩, if_pos hk]
  · rw [if_neg (fun q => hk q.2), if_neg hk]
    refine Classical.byContradiction (fun q => hk ?_)
    by_cases h18 : p < 18
    · exact kpt_18 h18
    · exact (kpt_iff (by omega)).mpr q
theorem c_renumber {M : MS} {a n : Nat} {l r : Nat → Nat} (ha : x_kd a = 20) (ha2 : a ≠ 11) (hn : n ≤ gL M a) (hn2 : n < 1000000000) (h11 : gL M 11 < 1000000000) (hl : ∀ j, j < n → gA M a j = Int32.ofNat (l j) ∧ l j < gL M 11 ∧ gA M 11 (l j) = Int32.ofNat (r j)) :
    ∃ M1, m_Terms_renumber a (Int32.ofNat n) M = some (M1, ()) ∧ Fr [a] [] M M1 ∧ ∀ p, gA M1 a p = if p < n then Int32.ofNat (r p) else gA M a p := by
  obtain ⟨M1, ⟨h1, h2⟩, h5⟩ := lp0 (b := fun (k : Nat × Int32 × Int32 × MS → Option (MS × Unit)) (i : Nat × Int32 × Int32 × MS) => m_Terms_renumber_2b k i.1 i.2.1 i.2.2.1 i.2.2.2) (fun i M' => (a, Int32.ofNat n, Int32.ofNat i, M')) (fun i M' => Fr [a] [] M M' ∧ ∀ p, gA M' a p = if p < i then Int32.ofNat (r p) else gA M a p) (fun M' => some (M', ())) (n := n) (by
    intro k i M' hi ⟨h1, h2⟩
    obtain ⟨e1, e2, e3⟩ := hl i hi
    refine ⟨sA M' a i (Int32.ofNat (r i)), ⟨h1.tr (Fr.stA (by simp)), fun p => ?_⟩, ?_⟩
    · rw [gA_sA, h2]
      by_cases hp : p = i
      · rw [if_pos ⟨rfl, hp⟩, if_pos (by omega), hp]
      · rw [if_neg (fun q => hp q.2)]
        by_cases hq : p < i
        · rw [if_pos hq, if_pos (by omega)]
        · rw [if_neg hq, if_neg (by omega)]
    · show m_Terms_renumber_2b k a (Int32.ofNat n) (Int32.ofNat i) M' = _
      unfold m_Terms_renumber_2b
      rw [if_neg (by rw [i_le_of (by omega) (by omega)]; omega), ld_of (by rw [h1.ln]; omega) (by omega), h2, if_neg (by omega), e1, Option.bind_some, ld_of (by rw [h1.ln]; omega) (by omega), h1.ga (by simpa using fun q : 11 = a => ha2 q.symm), e3, Option.bind_some, st_of (by rw [h1.ln]; omega) (by omega), Option.bind_some, i_inc]) (by
    intro k M' _
    show m_Terms_renumber_2b k a (Int32.ofNat n) (Int32.ofNat n) M' = _
    unfold m_Terms_renumber_2b
    rw [if_pos (Int32.le_refl _)]) M hn2 ⟨Fr.rf, fun p => by rw [if_neg (by omega)]⟩
  refine ⟨M1, ?_, h1, h2⟩
  unfold m_Terms_renumber
  rw [if_pos ha]
  exact h5
