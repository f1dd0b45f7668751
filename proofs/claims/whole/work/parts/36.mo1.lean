/-! STEP 2: the reference's small methods -/
theorem it_and (x : Nat) : Int32.ofNat x &&& 7 = Int32.ofNat (x % 8) := by
  rw [← Nat.and_two_pow_sub_one_eq_mod x 3]
  apply Int32.toBitVec_inj.mp
  rw [Int32.toBitVec_and]
  show BitVec.ofNat 32 x &&& BitVec.ofNat 32 7 = BitVec.ofNat 32 (x &&& 7)
  rw [BitVec.ofNat_and]
theorem it_shr {x : Nat} (h : x < 2147483648) : Int32.ofNat x >>> ((3 : Int32) &&& 31) = Int32.ofNat (x / 8) := by
  apply Int32.toInt_inj.mp
  rw [i_of (show x / 8 < 2147483648 by omega)]
  have e : (Int32.ofNat x >>> ((3 : Int32) &&& 31)).toInt = (Int32.ofNat x).toInt >>> 3 := by
    show ((Int32.ofNat x).toBitVec.sshiftRight _).toInt = _
    rw [BitVec.toInt_sshiftRight]
    rfl
  rw [e, i_of h, Int.shiftRight_eq_div_pow]
  omega
theorem cal_same {α β : Type} {M : MS} {v : β} {k : MS × β → Option α} : cal cM M (some (M, v)) k = k (M, v) := cal_some rfl (Nat.le_refl _) (Nat.le_refl _)
def sm (t : List Nat) : Prop := ∀ x ∈ t, x < 1048576
/-- a term written out stands in a row -/
def At (M : MS) (a i : Nat) (t : List Nat) : Prop := i + t.length ≤ gL M a ∧ ∀ k, k < t.length → gA M a (i + k) = Int32.ofNat (t.getD k 0)
theorem At.cons {M : MS} {a i x : Nat} {t : List Nat} (h : At M a i (x :: t)) : gA M a i = Int32.ofNat x ∧ i < gL M a ∧ At M a (i + 1) t := by
  obtain ⟨h1, h2⟩ := h
  rw [List.length_cons] at h1
  refine ⟨?_, by omega, by omega, fun k hk => ?_⟩
  · have := h2 0 (by simp)
    simpa using this
  · have := h2 (k + 1) (by simpa using hk)
    rw [show i + 1 + k = i + (k + 1) by omega, this]
    simp
theorem At.app {M : MS} {a i : Nat} {t r : List Nat} (h : At M a i (t ++ r)) : At M a i t ∧ At M a (i + t.length) r := by
  obtain ⟨h1, h2⟩ := h
  rw [List.length_append] at h1
  refine ⟨⟨by omega, fun k hk => ?_⟩, ⟨by omega, fun k hk => ?_⟩⟩
  · rw [h2 k (by rw [List.length_append]; omega)]
    simp [List.getD_eq_getElem?_getD, List.getElem?_append_left hk]
  · rw [Nat.add_assoc, h2 (t.length + k) (by rw [List.length_append]; omega)]
    simp [List.getD_eq_getElem?_getD, List.getElem?_append_right]
theorem At.mk {M : MS} {a i : Nat} {t r : List Nat} (h : At M a i t) (h2 : At M a (i + t.length) r) : At M a i (t ++ r) := by
  refine ⟨by have := h2.1; rw [List.length_append]; omega, fun k hk => ?_⟩
  rw [List.length_append] at hk
  by_cases hk2 : k < t.length
  · rw [h.2 k hk2]
    simp [List.getD_eq_getElem?_getD, List.getElem?_append_left hk2]
  · have := h2.2 (k - t.length) (by omega)
    rw [show i + t.length + (k - t.length) = i + k by omega] at this
    rw [this]
    simp [List.getD_eq_getElem?_getD, List.getElem?_append_right (Nat.not_lt.mp hk2)]
theorem At.eq {M : MS} {a i : Nat} {t u : List Nat} (h : At M a i t) (h2 : At M a i u) (ht : sm t) (hu : sm u) (hl : t.length = u.length) : t = u := by
  apply List.ext_getElem hl
  intro k h3 h4
  have e1 := h.2 k h3
  have e2 := h2.2 k h4
  rw [e1] at e2
  have q1 := ht _ (List.getElem_mem h3)
  have q2 := hu _ (List.getElem_mem h4)
  rw [List.getD_eq_getElem?_getD, List.getElem?_eq_getElem h3, List.getD_eq_getElem?_getD, List.getElem?_eq_getElem h4] at e2
  simp only [Option.getD_some] at e2
  have := congrArg Int32.toInt e2
  rw [i_of (by omega), i_of (by omega)] at this
  omega
theorem i_le_of {a b : Nat} (ha : a < 2147483648) (hb : b < 2147483648) : Int32.ofNat a ≤ Int32.ofNat b ↔ a ≤ b := by
  rw [i_le, i_of ha, i_of hb]
  omega
theorem i_lt_of {a b : Nat} (ha : a < 2147483648) (hb : b < 2147483648) : Int32.ofNat a < Int32.ofNat b ↔ a < b := by
  rw [i_lt, i_of ha, i_of hb]
  omega
theorem i_eq_of {a b : Nat} (ha : a < 2147483648) (hb : b < 2147483648) : Int32.ofNat a = Int32.ofNat b ↔ a = b := by
  rw [i_eq, i_of ha, i_of hb]
  omega
theorem i_add_of (a b : Nat) : Int32.ofNat a + Int32.ofNat b = Int32.ofNat (a + b) := (Int32.ofNat_add a b).symm
theorem i_sub_of {a b : Nat} (ha : a < 2147483648) (hb : b ≤ a) : Int32.ofNat a - Int32.ofNat b = Int32.ofNat (a - b) := by
  apply Int32.toInt_inj.mp
  rw [i_sub, i_of ha, i_of (by omega), i_of (by omega)]
  · omega
  · rw [i_of ha, i_of (by omega)]; omega
  · rw [i_of ha, i_of (by omega)]; omega
theorem ld_of {M : MS} {a i : Nat} (h : i < gL M a) (h2 : i < 2147483648) : ldA M a (Int32.ofNat i) = some (gA M a i) := by
  unfold ldA
  have e : (Int32.ofNat i).toNatClampNeg = i := by rw [i_cl, i_of h2]; omega
  rw [e, if_neg]
  rw [i_lt, i_of h2, i_0]
  omega
theorem st_of {M : MS} {a i : Nat} {x : Int32} (h : i < gL M a) (h2 : i < 2147483648) : stA M a (Int32.ofNat i) x = some (sA M a i x) := by
  unfold stA
  have e : (Int32.ofNat i).toNatClampNeg = i := by rw [i_cl, i_of h2]; omega
  rw [e, if_neg]
  rw [i_lt, i_of h2, i_0]
  omega
theorem r_arity {x : Nat} (h : x < 1048576) (M : MS) : m_Mo_arity (Int32.ofNat x) M = some (M, Int32.ofNat (ar x)) := by
  have hm : x % 8 < 8 := Nat.mod_lt _ (by omega)
  unfold m_Mo_arity m_Mo_sort
  rw [cal_same]
  simp only [it_and]
  rw [show (3 : Int32) = Int32.ofNat 3 from rfl]
  by_cases c0 : x % 8 < 3
  · rw [if_neg (by rw [i_le_of (by omega) (by omega)]; omega), ar_0 c0]
    rfl
  · rw [if_pos (by rw [i_le_of (by omega) (by omega)]; omega), cal_same]
    by_cases c3 : x % 8 = 3
    · rw [if_neg (by rw [i_eq_of (by omega) (by omega)]; omega), ar_2 c3]
      rfl
    · rw [if_pos (by rw [i_eq_of (by omega) (by omega)]; omega), cal_same]
      rw [show (5 : Int32) = Int32.ofNat 5 from rfl]
      by_cases c4 : x % 8 ≤ 5
      · rw [if_pos (by rw [i_le_of (by omega) (by omega)]; omega), ar_n (by omega)]
        rw [show Int32.ofNat 3 = (3 : Int32) from rfl, it_shr (by omega)]
      · rw [if_neg (by rw [i_le_of (by omega) (by omega)]; omega), ar_1 (by omega)]
        rfl
theorem cn_le {t : List Nat} {n : Nat} (h : cn t = some n) : n ≤ t.length := by
  induction t generalizing n with
  | nil => cases h; exact Nat.le_refl _
  | cons x r ih =>
    rw [cn_cons] at h
    cases h1 : cn r with
    | none => rw [h1] at h; cases h
    | some k =>
      rw [h1] at h
      simp only [Option.bind_some] at h
      have := ih h1
      split at h
      · simp only [Option.some.injEq] at h
        rw [List.length_cons]
        omega
      · cases h
theorem r_length4 {M : MS} {a l1 : Nat} : ∀ (v r : List Nat) (n i F : Nat), cn v = some n → At M a i (v ++ r) → sm v → v.length < F → i + v.length < 1073741824 → l1 ≤ i →
    fx (fun (k : Nat × Int32 × Int32 × Int32 × MS → Option (MS × Int32)) (i : Nat × Int32 × Int32 × Int32 × MS) => m_Mo_length_4b k i.1 i.2.1 i.2.2.1 i.2.2.2.1 i.2.2.2.2) F (a, Int32.ofNat l1, Int32.ofNat n, Int32.ofNat i, M) = some (M, Int32.ofNat (i + v.length - l1)) := by
  intro v
  induction v with
  | nil =>
    intro r n i F h1 h2 h3 h4 h5 h6
    cases h1
    cases F with
    | zero => simp at h4
    | succ F =>
      show m_Mo_length_4b _ a (Int32.ofNat l1) (Int32.ofNat 0) (Int32.ofNat i) M = _
      unfold m_Mo_length_4b
      rw [if_pos (show Int32.ofNat 0 ≤ 0 by decide), i_sub_of (by omega) h6]
      rfl
  | cons x v ih =>
    intro r n i F h1 h2 h3 h4 h5 h6
    have hle := cn_le h1
    rw [List.length_cons] at h4 h5 hle
    rw [cn_cons] at h1
    cases h7 : cn v with
    | none => rw [h7] at h1; cases h1
    | some k =>
      rw [h7] at h1
      simp only [Option.bind_some] at h1
      split at h1
      · rename_i hk
        simp only [Option.some.injEq] at h1
        have hk2 := cn_le h7
        rw [List.cons_append] at h2
        obtain ⟨q1, q2, q3⟩ := h2.cons
        have hx := h3 x List.mem_cons_self
        cases F with
        | zero => omega
        | succ F =>
          show m_Mo_length_4b _ a (Int32.ofNat l1) (Int32.ofNat n) (Int32.ofNat i) M = _
          unfold m_Mo_length_4b
          rw [if_neg (by rw [i_le, i_of (by omega), i_0]; omega), ld_of q2 (by omega), q1]
          simp only [Option.bind_some]
          rw [r_arity hx, cal_same]
          have e1 : Int32.ofNat n + (Int32.ofNat (ar x) - 1) = Int32.ofNat k := by
            apply Int32.toInt_inj.mp
            have e2 : (Int32.ofNat (ar x) - 1).toInt = (ar x : Int) - 1 := by
              rw [i_sub, i_of (by omega), i_1]
              · rw [i_of (by omega), i_1]; omega
              · rw [i_of (by omega), i_1]; omega
            rw [i_add, e2, i_of (by omega), i_of (by omega)]
            · omega
            · rw [e2, i_of (by omega)]; omega
            · rw [e2, i_of (by omega)]; omega
          have e3 : Int32.ofNat i + 1 = Int32.ofNat (i + 1) := i_add_of i 1
          show fx _ F (a, Int32.ofNat l1, Int32.ofNat n + (Int32.ofNat (ar x) - 1), Int32.ofNat i + 1, M) = _
          rw [e1, e3]
          refine (ih r k (i + 1) F h7 q3 (fun y hy => h3 y (List.mem_cons_of_mem _ hy)) (by omega) (by omega) (by omega)).trans ?_
          rw [List.length_cons]
          congr 3
          omega
      · cases h1
/-- length: how long the term is that begins there -/
theorem r_length {M : MS} {a i : Nat} {p r : List Nat} (ha : x_kd a = 20) (hp : wf p) (h : At M a i (p ++ r)) (hs : sm p) (hb : i + p.length < 1073741824) : m_Mo_length a (Int32.ofNat i) M = some (M, Int32.ofNat p.length) := by
  unfold m_Mo_length
  rw [if_pos ha]
  have := r_length4 (l1 := i) p r 1 i FU hp h hs (by unfold FU; omega) hb (Nat.le_refl _)
  unfold m_Mo_length_4
  rw [show (1 : Int32) = Int32.ofNat 1 from rfl, this]
  congr 3
  omega
