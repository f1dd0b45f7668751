/-! STEP 2: the word at a place; the reference's find -/
theorem l_of {n : Nat} (h : n < 9223372036854775808) : (Int64.ofNat n).toInt = (n : Int) := Int64.toInt_ofNat_of_lt h
theorem l_lt_of {a b : Nat} (ha : a < 9223372036854775808) (hb : b < 9223372036854775808) : Int64.ofNat a < Int64.ofNat b ↔ a < b := by
  rw [Int64.lt_iff_toInt_lt, l_of ha, l_of hb]
  omega
theorem l_sub_of {a b : Nat} (hb : b ≤ a) : Int64.ofNat a - Int64.ofNat b = Int64.ofNat (a - b) := by
  have : Int64.ofNat a = Int64.ofNat (a - b) + Int64.ofNat b := by
    rw [l_add_of]
    congr 1
    omega
  rw [this, Int64.add_sub_cancel]
theorem l_mul_of (a b : Nat) : Int64.ofNat a * Int64.ofNat b = Int64.ofNat (a * b) := (Int64.ofNat_mul a b).symm
theorem l_or_of (a b : Nat) : Int64.ofNat a ||| Int64.ofNat b = Int64.ofNat (a ||| b) := by
  apply Int64.toBitVec_inj.mp
  rw [Int64.toBitVec_or]
  show BitVec.ofNat 64 a ||| BitVec.ofNat 64 b = BitVec.ofNat 64 (a ||| b)
  rw [BitVec.ofNat_or]
theorem l_36 : ∀ n : Fin 17, ((Int32.ofNat n.val).toInt64 <<< ((36 : Int32).toInt64 &&& 63)) = Int64.ofNat (2 ^ 36 * n.val) := by decide
theorem l_c : ∀ n : Fin 4, (Int32.ofNat n.val).toInt64 = Int64.ofNat n.val := by decide
/-- which letter: from c on, with n more to look at -/
def sc (f : Nat → Nat) (left n c : Nat) : Nat × Nat := match n with
  | 0 => (c, left)
  | n + 1 => if left < f c then (c, left) else sc f (left - f c) n (c + 1)
theorem sc_ok {f : Nat → Nat} : ∀ (n c left : Nat), c + n = 3 → left + s4 f c < s4 f 4 → (sc f left n c).1 < 4 ∧ (sc f left n c).2 < f (sc f left n c).1 := by
  intro n
  induction n with
  | zero =>
    intro c left h1 h2
    have hc : c = 3 := by omega
    subst hc
    refine ⟨by show 3 < 4; omega, ?_⟩
    show left < f 3
    have : s4 f 4 = s4 f 3 + f 3 := rfl
    omega
  | succ n ih =>
    intro c left h1 h2
    unfold sc
    by_cases h : left < f c
    · rw [if_pos h]
      exact ⟨by show c < 4; omega, h⟩
    · rw [if_neg h]
      refine ih (c + 1) (left - f c) (by omega) ?_
      show left - f c + (s4 f c + f c) < _
      omega
theorem sc_le {f : Nat → Nat} : ∀ (n c left : Nat), (sc f left n c).2 ≤ left := by
  intro n
  induction n with
  | zero => intro c left; exact Nat.le_refl _
  | succ n ih =>
    intro c left
    unfold sc
    split
    · exact Nat.le_refl _
    · exact Nat.le_trans (ih (c + 1) (left - f c)) (Nat.sub_le _ _)
def fdW (u : List Nat) (i left acc : Nat) : Nat := match i with
  | 0 => acc
  | i + 1 => fdW (DS (sc (fun d => cw (DS d u) i) left 3 0).1 u) i (sc (fun d => cw (DS d u) i) left 3 0).2 (4 * acc + (sc (fun d => cw (DS d u) i) left 3 0).1)
def fdL (t : List Nat) (r left : Nat) : Option (Nat × Nat) := match r with
  | 0 => none
  | r + 1 => if left < cw t (16 - r) then some (16 - r, left) else fdL t r (left - cw t (16 - r))
def fdA (t : List Nat) (k : Nat) : Int64 := match fdL t 17 k with
  | none => -1
  | some p => Int64.ofNat (2 ^ 36 * p.1 + fdW t p.1 p.2 0)
theorem fdW_lt : ∀ (i : Nat) (u : List Nat) (left acc : Nat), left < cw u i → fdW u i left acc < (acc + 1) * 4 ^ i := by
  intro i
  induction i with
  | zero =>
    intro u left acc _
    show acc < (acc + 1) * 1
    omega
  | succ i ih =>
    intro u left acc h
    rw [cw_s4] at h
    obtain ⟨h1, h2⟩ := sc_ok (f := fun d => cw (DS d u) i) 3 0 left rfl (by show left + 0 < _; omega)
    have := ih _ _ (4 * acc + (sc (fun d => cw (DS d u) i) left 3 0).1) h2
    show fdW _ i _ _ < _
    refine Nat.lt_of_lt_of_le this ?_
    rw [Nat.pow_succ, Nat.mul_comm (4 ^ i) 4, ← Nat.mul_assoc]
    exact Nat.mul_le_mul_right _ (by omega)
theorem fdL_ok {t : List Nat} : ∀ (r left : Nat) (p : Nat × Nat), fdL t r left = some p → p.1 ≤ 16 ∧ p.2 < cw t p.1 := by
  intro r
  induction r with
  | zero => intro left p h; cases h
  | succ r ih =>
    intro left p h
    unfold fdL at h
    by_cases hc : left < cw t (16 - r)
    · rw [if_pos hc] at h
      simp only [Option.some.injEq] at h
      rw [← h]
      exact ⟨by show 16 - r ≤ 16; omega, hc⟩
    · rw [if_neg hc] at h
      exact ih _ p h
theorem cw_lt {t : List Nat} {k : Nat} (h : k ≤ 16) : cw t k < 9223372036854775808 := by
  have h1 := cw_le k t
  have h2 : 4 ^ k ≤ 4 ^ 16 := Nat.pow_le_pow_right (by omega) h
  have h3 : (4 : Nat) ^ 16 = 4294967296 := by decide
  omega
theorem r_find134 {M : MS} {t : List Nat} {q : List (List Nat)} {k126 : Int64 × Int32 × Int64 × Int32 × Int32 × MS → Option (MS × Int64)} {l7 : Int32} {l8 : Int64} {j i : Nat} (hm : Mch t q) (hX : XM M q) (l10 : gL M 110 = 600) (l16 : gL M 116 = 2700) (hi : i < 16) (hj : j < q.length) (hC : CT M 116 q 17 0) :
    ∀ (n c left F : Nat), c + n = 3 → left < 9223372036854775808 → left + s4 (fun d => cw (DS d (q.getD j [])) i) c < s4 (fun d => cw (DS d (q.getD j [])) i) 4 → n < F → fx (fun (k : Int64 × Int32 × Int64 × Int32 × Int32 × Int32 × MS → Option (MS × Int64)) (i : Int64 × Int32 × Int64 × Int32 × Int32 × Int32 × MS) => m_Mo_find_134b k126 k i.1 i.2.1 i.2.2.1 i.2.2.2.1 i.2.2.2.2.1 i.2.2.2.2.2.1 i.2.2.2.2.2.2) F (Int64.ofNat left, l7, l8, Int32.ofNat j, Int32.ofNat i, Int32.ofNat c, M) = m_Mo_find_199 k126 (Int64.ofNat (sc (fun d => cw (DS d (q.getD j [])) i) left n c).2) l7 l8 (Int32.ofNat j) (Int32.ofNat i) (Int32.ofNat (sc (fun d => cw (DS d (q.getD j [])) i) left n c).1) M := by
  have hl := hm.2.1
  have hld : ∀ c, c < 4 → ldA M 110 ((4 : Int32) * Int32.ofNat j + Int32.ofNat c) = some (Int32.ofNat (ix (DS c (q.getD j [])) q)) := fun c hc => by
    rw [show (4 : Int32) = Int32.ofNat 4 from rfl, i_mul_of, i_add_of, ld_of (by omega) (by omega), (hX j hj).2 c hc]
  have hldJ : ∀ c, c < 4 → ldJ M 116 ((150 : Int32) * Int32.ofNat i + Int32.ofNat (ix (DS c (q.getD j [])) q)) = some (Int64.ofNat (cw (DS c (q.getD j [])) i)) := fun c hc => by
    obtain ⟨n1, n2⟩ := hm.nx hj hc
    have e2 := hC i _ n1 (by omega)
    rw [n2] at e2
    rw [show (150 : Int32) = Int32.ofNat 150 from rfl, i_mul_of, i_add_of, ld_ofJ (by omega) (by omega), e2]
  intro n
  induction n with
  | zero =>
    intro c left F h1 h2 h3 h4
    have hc : c = 3 := by omega
    subst hc
    cases F with
    | zero => omega
    | succ F =>
      show m_Mo_find_134b k126 _ (Int64.ofNat left) l7 l8 (Int32.ofNat j) (Int32.ofNat i) (Int32.ofNat 3) M = _
      unfold m_Mo_find_134b
      have hlt : left < cw (DS 3 (q.getD j [])) i := by
        have e : s4 (fun d => cw (DS d (q.getD j [])) i) 4 = s4 (fun d => cw (DS d (q.getD j [])) i) 3 + cw (DS 3 (q.getD j [])) i := rfl
        omega
      rw [hld 3 (by omega)]
      simp only [Option.bind_some]
      rw [hldJ 3 (by omega)]
      simp only [Option.bind_some]
      rw [if_pos (by rw [lg_cmp_lt, l_lt_of h2 (cw_lt (by omega))]; exact hlt)]
      rfl
  | succ n ih =>
    intro c left F h1 h2 h3 h4
    cases F with
    | zero => omega
    | succ F =>
      show m_Mo_find_134b k126 _ (Int64.ofNat left) l7 l8 (Int32.ofNat j) (Int32.ofNat i) (Int32.ofNat c) M = _
      unfold m_Mo_find_134b
      rw [hld c (by omega)]
      simp only [Option.bind_some]
      rw [hldJ c (by omega)]
      simp only [Option.bind_some]
      by_cases hc : left < cw (DS c (q.getD j [])) i
      · have e : sc (fun d => cw (DS d (q.getD j [])) i) left (n + 1) c = (c, left) := by
          unfold sc
          rw [if_pos hc]
        rw [if_pos (by rw [lg_cmp_lt, l_lt_of h2 (cw_lt (by omega))]; exact hc), e]
      · have e : sc (fun d => cw (DS d (q.getD j [])) i) left (n + 1) c = sc (fun d => cw (DS d (q.getD j [])) i) (left - cw (DS c (q.getD j [])) i) n (c + 1) := by
          conv => lhs; unfold sc
          rw [if_neg hc]
        rw [if_neg (by rw [lg_cmp_lt, l_lt_of h2 (cw_lt (by omega))]; exact hc), e, l_sub_of (by omega), i_inc]
        exact ih (c + 1) (left - cw (DS c (q.getD j [])) i) F (by omega) (by omega) (by
          show left - cw (DS c (q.getD j [])) i + (s4 (fun d => cw (DS d (q.getD j [])) i) c + cw (DS c (q.getD j [])) i) < _
          omega) (by omega)
theorem r_find126 {M : MS} {t : List Nat} {q : List (List Nat)} {n : Nat} (hm : Mch t q) (hX : XM M q) (l10 : gL M 110 = 600) (l16 : gL M 116 = 2700) (hC : CT M 116 q 17 0) :
    ∀ (i j left acc F : Nat), i ≤ 16 → j < q.length → left < cw (q.getD j []) i → i < F → fx (fun (k : Int64 × Int32 × Int64 × Int32 × Int32 × MS → Option (MS × Int64)) (i : Int64 × Int32 × Int64 × Int32 × Int32 × MS) => m_Mo_find_126b k i.1 i.2.1 i.2.2.1 i.2.2.2.1 i.2.2.2.2.1 i.2.2.2.2.2) F (Int64.ofNat left, Int32.ofNat n, Int64.ofNat acc, Int32.ofNat j, Int32.ofNat i + -1, M) = some (M, Int64.ofNat (fdW (q.getD j []) i left acc) ||| ((Int32.ofNat n).toInt64 <<< ((36 : Int32).toInt64 &&& 63))) := by
  have hl := hm.2.1
  intro i
  induction i with
  | zero =>
    intro j left acc F h1 h2 h3 h4
    cases F with
    | zero => omega
    | succ F =>
      show m_Mo_find_126b _ (Int64.ofNat left) (Int32.ofNat n) (Int64.ofNat acc) (Int32.ofNat j) (Int32.ofNat 0 + -1) M = _
      unfold m_Mo_find_126b
      rw [if_pos (by decide)]
      rfl
  | succ i ih =>
    intro j left acc F h1 h2 h3 h4
    cases F with
    | zero => omega
    | succ F =>
      have e1 : Int32.ofNat (i + 1) + -1 = Int32.ofNat i := by rw [i_dec (by omega) (by omega), Nat.add_sub_cancel]
      rw [e1]
      show m_Mo_find_126b _ (Int64.ofNat left) (Int32.ofNat n) (Int64.ofNat acc) (Int32.ofNat j) (Int32.ofNat i) M = _
      have hlt := cw_lt (t := q.getD j []) h1
      rw [cw_s4] at h3
      have hsum : left + s4 (fun d => cw (DS d (q.getD j [])) i) 0 < s4 (fun d => cw (DS d (q.getD j [])) i) 4 := h3
      obtain ⟨p1, p2⟩ := sc_ok 3 0 left rfl hsum
      rw [cw_s4] at hlt
      unfold m_Mo_find_126b m_Mo_find_134
      rw [if_neg (by rw [i_lt, i_of (by omega), i_0]; omega)]
      refine (r_find134 (k126 := fx (fun (k : Int64 × Int32 × Int64 × Int32 × Int32 × MS → Option (MS × Int64)) (i : Int64 × Int32 × Int64 × Int32 × Int32 × MS) => m_Mo_find_126b k i.1 i.2.1 i.2.2.1 i.2.2.2.1 i.2.2.2.2.1 i.2.2.2.2.2) F) (l7 := Int32.ofNat n) (l8 := Int64.ofNat acc) hm hX l10 l16 (by omega) h2 hC 3 0 left FU rfl (by omega) hsum (by unfold FU; omega)).trans ?_
      have hfd : fdW (q.getD j []) (i + 1) left acc = fdW (DS (sc (fun d => cw (DS d (q.getD j [])) i) left 3 0).1 (q.getD j [])) i (sc (fun d => cw (DS d (q.getD j [])) i) left 3 0).2 (4 * acc + (sc (fun d => cw (DS d (q.getD j [])) i) left 3 0).1) := rfl
      rw [hfd]
      generalize sc (fun d => cw (DS d (q.getD j [])) i) left 3 0 = p at p1 p2
      obtain ⟨n1, n2⟩ := hm.nx h2 p1
      unfold m_Mo_find_199
      rw [show (4 : Int32) = Int32.ofNat 4 from rfl, i_mul_of, i_add_of, ld_of (by omega) (by omega), (hX j h2).2 _ p1]
      simp only [Option.bind_some]
      rw [l_c ⟨p.1, p1⟩, show (4 : Int64) = Int64.ofNat 4 from rfl, l_mul_of, l_add_of]
      have := ih (ix (DS p.1 (q.getD j [])) q) p.2 (4 * acc + p.1) F (by omega) n1 (by rw [n2]; exact p2) (by omega)
      rw [n2] at this
      exact this
theorem r_find57 {M : MS} {t : List Nat} {q : List (List Nat)} (hm : Mch t q) (hX : XM M q) (l10 : gL M 110 = 600) (l16 : gL M 116 = 2700) (hC : CT M 116 q 17 0) :
    ∀ (r left F : Nat), r ≤ 17 → left < 9223372036854775808 → r < F → fx (fun (k : Int64 × Int32 × MS → Option (MS × Int64)) (i : Int64 × Int32 × MS) => m_Mo_find_57b k i.1 i.2.1 i.2.2) F (Int64.ofNat left, Int32.ofNat (17 - r), M) = some (M, match fdL t r left with
      | none => -1
      | some p => Int64.ofNat (2 ^ 36 * p.1 + fdW t p.1 p.2 0)) := by
  have hp := hm.pos
  intro r
  induction r with
  | zero =>
    intro left F h1 h2 h3
    cases F with
    | zero => omega
    | succ F =>
      show m_Mo_find_57b _ (Int64.ofNat left) (Int32.ofNat 17) M = _
      unfold m_Mo_find_57b m_Mo_find_103
      rw [if_pos (by decide), if_neg (by decide)]
      rfl
  | succ r ih =>
    intro left F h1 h2 h3
    cases F with
    | zero => omega
    | succ F =>
      have e17 : 17 - (r + 1) = 16 - r := by omega
      rw [e17]
      show m_Mo_find_57b _ (Int64.ofNat left) (Int32.ofNat (16 - r)) M = _
      have hv := hC (16 - r) 0 hp.1 (by omega)
      rw [hp.2, Nat.add_zero] at hv
      unfold m_Mo_find_57b
      rw [if_neg (by rw [show (16 : Int32) = Int32.ofNat 16 from rfl, i_lt_of (by omega) (by omega)]; omega), show (150 : Int32) = Int32.ofNat 150 from rfl, i_mul_of, ld_ofJ (by omega) (by omega), hv]
      simp only [Option.bind_some]
      by_cases hc : left < cw t (16 - r)
      · have e : fdL t (r + 1) left = some (16 - r, left) := by
          unfold fdL
          rw [if_pos hc]
        rw [if_pos (by rw [lg_cmp_lt, l_lt_of h2 (cw_lt (by omega))]; exact hc), e]
        unfold m_Mo_find_103 m_Mo_find_126
        rw [if_pos (by rw [show (16 : Int32) = Int32.ofNat 16 from rfl, i_le_of (by omega) (by omega)]; omega)]
        have h126 := r_find126 (n := 16 - r) hm hX l10 l16 hC (16 - r) 0 left 0 FU (by omega) hp.1 (by rw [hp.2]; exact hc) (by unfold FU; omega)
        rw [hp.2] at h126
        have e1 : Int32.ofNat (16 - r) - 1 = Int32.ofNat (16 - r) + -1 := by
          rw [Int32.sub_eq_add_neg]
        rw [e1]
        refine h126.trans ?_
        have hw := fdW_lt (16 - r) t left 0 hc
        have h4 : 4 ^ (16 - r) ≤ 4 ^ 16 := Nat.pow_le_pow_right (by omega) (by omega)
        have h5 : (4 : Nat) ^ 16 = 4294967296 := by decide
        rw [l_36 ⟨16 - r, by omega⟩, l_or_of, Nat.or_comm, ← Nat.two_pow_add_eq_or_of_lt (i := 36) (by omega)]
      · have e : fdL t (r + 1) left = fdL t r (left - cw t (16 - r)) := by
          conv => lhs; unfold fdL
          rw [if_neg hc]
        rw [if_neg (by rw [lg_cmp_lt, l_lt_of h2 (cw_lt (by omega))]; exact hc), e, l_sub_of (by omega), i_inc, show 16 - r + 1 = 17 - r by omega]
        exact ih (left - cw t (16 - r)) F (by omega) (by omega) (by omega)
def FdV (t : List Nat) (k : Int64) (v : Int64) : Prop := ((Big t ∨ k.toInt < 0) ∧ v = -1) ∨ (¬ Big t ∧ 0 ≤ k.toInt ∧ v = fdA t k.toInt.toNat)
theorem FdV.one {t : List Nat} {k v w : Int64} (h : FdV t k v) (h2 : FdV t k w) : v = w := by
  rcases h with ⟨a, b⟩ | ⟨a, a', b⟩ <;> rcases h2 with ⟨c, d⟩ | ⟨c, c', d⟩
  · rw [b, d]
  · rcases a with a | a
    · exact absurd a c
    · omega
  · rcases c with c | c
    · exact absurd c a
    · omega
  · rw [b, d]
theorem r_find_bad {S : Nat → List Nat} {W : Option (List Nat)} {M : MS} {a : Int32} {k : Int64} (hI : RI S W M) (h : slB a = false) : RA S W M (m_Mo_find a k M) 0 1 := by
  have e : m_Mo_find a k M = some (sI M 97 0 1, 0) := by
    simp only [m_Mo_find, m_Mo_find_13, r_isSlot, cal_same, h, b01_f, i10, not_true_eq_false, if_false, r_fail1, cal_sI]
  rw [e]
  exact RA.fail hI _ _
theorem r_find {S : Nat → List Nat} {W : Option (List Nat)} {M : MS} {a : Nat} {k : Int64} (hI : RI S W M) (ha : a < 16) : RX S W M (m_Mo_find (Int32.ofNat a) k M) (FdV (S a) k) := by
  have e : m_Mo_find (Int32.ofNat a) k M = m_Mo_find_13 (Int32.ofNat a) k 0 M := by
    simp only [m_Mo_find, r_isSlot, cal_same, slB_nat ha, b01_t, i10, not_false_eq_true, if_true]
  rw [e]
  unfold m_Mo_find_13
  rw [r_fail0, cal_sI, if_pos (by show (0 : Int32) = 0; decide)]
  have hI0 := hI.thr 0
  have hth : gI (sI M 97 0 0) 97 0 = 0 := by rw [gI_sI, if_pos ⟨rfl, rfl⟩]
  have hF0 : FrR M (sI M 97 0 0) := FrR.thr 0
  generalize sI M 97 0 0 = M1 at hI0 hth hF0
  refine explore_then hI0 ha (G := fun x => RX S W M x (FdV (S a) k)) (fun hb M2 hI2 hf => ?_) (fun q M2 hm hX hI2 hf => ?_)
  · rw [if_pos (by show (-1 : Int32) = -1; decide)]
    exact ⟨-1, ⟨M2, rfl, hI2, hF0.tr (FrE hf), by rw [ThE hf]; exact hth⟩, Or.inl ⟨Or.inl hb, rfl⟩⟩
  · have hql := hm.2.1
    rw [if_neg (i_nm1 (by omega))]
    have hk0 : (0 ≤ lg_cmp k 0) ↔ 0 ≤ k.toInt := by
      rw [lg_cmp_ge, Int64.le_iff_toInt_le]
      rfl
    by_cases hk : 0 ≤ k.toInt
    · rw [if_pos (hk0.mpr hk)]
      obtain ⟨-, -, ⟨-, -, l10, -, -, -, l14, -⟩, ⟨l16, -⟩⟩ := hI2.1
      obtain ⟨r, c1, c2, c3⟩ := r_count hm hX l10 l14 l16
      rw [cal_some c1 c3.le.1 c3.le.2]
      have hkl : k.toInt.toNat < 9223372036854775808 := by
        have := Int64.toInt_lt k
        omega
      have hke : k = Int64.ofNat k.toInt.toNat := by
        apply Int64.toInt_inj.mp
        rw [l_of hkl]
        omega
      have h57 := r_find57 hm (hX.fr c3 (by decide) (by decide)) (by rw [c3.ln]; exact l10) (by rw [c3.ln]; exact l16) c2 17 k.toInt.toNat FU (by omega) hkl (by unfold FU; omega)
      rw [← hke] at h57
      have h57' : m_Mo_find_57 (k, 0, r.1) = some (r.1, fdA (S a) k.toInt.toNat) := h57
      rw [h57']
      refine ⟨_, ⟨r.1, rfl, hI2.fr c3 (by decide) (by decide) (by decide) (by decide), (hF0.tr (FrE hf)).tr (c3.toR (by decide) (by decide)), ?_⟩, Or.inr ⟨hm.nBig, hk, rfl⟩⟩
      rw [c3.gi (by decide), ThE hf]
      exact hth
    · rw [if_neg (fun h => hk (hk0.mp h))]
      exact ⟨-1, ⟨M2, rfl, hI2, hF0.tr (FrE hf), by rw [ThE hf]; exact hth⟩, Or.inl ⟨Or.inr (by omega), rfl⟩⟩
