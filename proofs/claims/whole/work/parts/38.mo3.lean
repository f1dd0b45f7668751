/-! STEP 2: writing a term into a row; the reference's place and not -/
def wr (M : MS) (b j : Nat) (t : List Nat) : MS := (fun n => if n = b then (fun p => if j ≤ p ∧ p < j + t.length then Int32.ofNat (t.getD (p - j) 0) else M.1 b p) else M.1 n, M.2)
theorem gA_wr {M : MS} {b j : Nat} {t : List Nat} (n p : Nat) : gA (wr M b j t) n p = if n = b ∧ j ≤ p ∧ p < j + t.length then Int32.ofNat (t.getD (p - j) 0) else gA M n p := by
  show (if n = b then (fun p => if j ≤ p ∧ p < j + t.length then Int32.ofNat (t.getD (p - j) 0) else M.1 b p) else M.1 n) p = _
  by_cases h : n = b
  · subst h
    rw [if_pos rfl]
    by_cases h2 : j ≤ p ∧ p < j + t.length
    · have e : (n = n ∧ j ≤ p ∧ p < j + t.length) := ⟨rfl, h2⟩
      rw [if_pos e]
      exact if_pos h2
    · have e : ¬ (n = n ∧ j ≤ p ∧ p < j + t.length) := fun q => h2 q.2
      rw [if_neg e]
      exact if_neg h2
  · rw [if_neg h, if_neg (fun q => h q.1)]
    rfl
theorem MS_ext {M M1 : MS} (h1 : ∀ n p, gA M1 n p = gA M n p) (h2 : M1.2 = M.2) : M1 = M := by
  apply Prod.ext
  · funext n p
    exact h1 n p
  · exact h2
theorem wr_nil (M : MS) (b j : Nat) : wr M b j [] = M := by
  apply MS_ext
  · intro n p
    rw [gA_wr, if_neg (by rw [List.length_nil]; omega)]
  · rfl
theorem wr_snoc {M : MS} {b j x : Nat} {t : List Nat} : sA (wr M b j t) b (j + t.length) (Int32.ofNat x) = wr M b j (t ++ [x]) := by
  apply MS_ext
  · intro n p
    rw [gA_sA, gA_wr, gA_wr, List.length_append, List.length_singleton]
    by_cases h : n = b
    · subst h
      by_cases h2 : p = j + t.length
      · subst h2
        rw [if_pos ⟨rfl, rfl⟩, if_pos ⟨rfl, by omega, by omega⟩]
        rw [Nat.add_sub_cancel_left]
        simp [List.getD_eq_getElem?_getD]
      · rw [if_neg (fun q => h2 q.2)]
        by_cases h3 : j ≤ p ∧ p < j + t.length
        · rw [if_pos ⟨rfl, h3⟩, if_pos ⟨rfl, by omega, by omega⟩]
          congr 1
          rw [List.getD_eq_getElem?_getD, List.getD_eq_getElem?_getD, List.getElem?_append_left (by omega)]
        · rw [if_neg (fun q => h3 q.2), if_neg (fun q => by omega)]
    · rw [if_neg (fun q => h q.1), if_neg (fun q => h q.1), if_neg (fun q => h q.1)]
  · rfl
theorem At_wr {M : MS} {b j : Nat} {t : List Nat} (h : j + t.length ≤ gL M b) : At (wr M b j t) b j t := by
  refine ⟨h, fun k hk => ?_⟩
  rw [gA_wr, if_pos ⟨rfl, by omega, by omega⟩, Nat.add_sub_cancel_left]
theorem At_wr_ne {M : MS} {b j n i : Nat} {t u : List Nat} (hn : n ≠ b) (h : At M n i u) : At (wr M b j t) n i u := by
  refine ⟨h.1, fun k hk => ?_⟩
  rw [gA_wr, if_neg (fun q => hn q.1)]
  exact h.2 k hk
theorem At_wr_dis {M : MS} {b j i : Nat} {t u : List Nat} (hd : i + u.length ≤ j ∨ j + t.length ≤ i) (h : At M b i u) : At (wr M b j t) b i u := by
  refine ⟨h.1, fun k hk => ?_⟩
  rw [gA_wr, if_neg (fun q => by omega)]
  exact h.2 k hk
theorem gL_wr {M : MS} {b j : Nat} {t : List Nat} : gL (wr M b j t) = gL M := rfl
theorem gI_wr {M : MS} {b j : Nat} {t : List Nat} : gI (wr M b j t) = gI M := rfl
theorem gD_wr {M : MS} {b j : Nat} {t : List Nat} : gD (wr M b j t) = gD M := rfl
theorem gJ_wr {M : MS} {b j : Nat} {t : List Nat} : gJ (wr M b j t) = gJ M := rfl
theorem cM_wr {M : MS} {b j : Nat} {t : List Nat} : cM (wr M b j t) = cM M := rfl
theorem At.sA_ne {M : MS} {b j n i : Nat} {x : Int32} {u : List Nat} (hn : n ≠ b) (h : At M n i u) : At (sA M b j x) n i u := by
  refine ⟨h.1, fun k hk => ?_⟩
  rw [gA_sA, if_neg (fun q => hn q.1)]
  exact h.2 k hk
/-- the state behind place -/
def plc (M : MS) (at0 : Nat) (t : List Nat) (l3 l4 : Int32) (tp : Nat) : MS := sI (sI (sA (sA (sA (sA (wr M 100 at0 t) 102 tp (Int32.ofNat at0)) 103 tp (Int32.ofNat t.length)) 104 tp l3) 105 tp (nb l4)) 97 10 (Int32.ofNat (at0 + t.length))) 97 9 (Int32.ofNat (tp + 1))
theorem r_place3 {M : MS} {at0 tp : Nat} {l3 l4 : Int32} (hL : gL M 102 = 400 ∧ gL M 103 = 400 ∧ gL M 104 = 400 ∧ gL M 105 = 400) (htp : gI M 97 9 = Int32.ofNat tp) (htp2 : tp < 400) (t : List Nat) (ht : At M 101 0 t) (hf : at0 + t.length ≤ gL M 100) (hb : at0 + t.length < 1073741824) :
    ∀ (v u : List Nat) (F : Nat), t = u ++ v → v.length < F → fx (fun (k : Int32 × Int32 × Int32 × Int32 × Int32 × MS → Option (MS × Unit)) (i : Int32 × Int32 × Int32 × Int32 × Int32 × MS) => m_Mo_place_3b k i.1 i.2.1 i.2.2.1 i.2.2.2.1 i.2.2.2.2.1 i.2.2.2.2.2) F (Int32.ofNat at0, Int32.ofNat t.length, l3, l4, Int32.ofNat u.length, wr M 100 at0 u) = some (plc M at0 t l3 l4 tp, ()) := by
  intro v
  induction v with
  | nil =>
    intro u F h1 h2
    rw [List.append_nil] at h1
    subst h1
    cases F with
    | zero => simp at h2
    | succ F =>
      show m_Mo_place_3b _ (Int32.ofNat at0) (Int32.ofNat t.length) l3 l4 (Int32.ofNat t.length) (wr M 100 at0 t) = _
      unfold m_Mo_place_3b m_Mo_place_31
      rw [if_pos (by rw [i_le_of (by omega) (by omega)]; omega)]
      have e0 : gI (wr M 100 at0 t) 97 9 = Int32.ofNat tp := htp
      rw [e0, st_of (by show tp < gL M 102; omega) (by omega)]
      simp only [Option.bind_some]
      have e1 : gI (sA (wr M 100 at0 t) 102 tp (Int32.ofNat at0)) 97 9 = Int32.ofNat tp := htp
      rw [e1, st_of (by show tp < gL M 103; omega) (by omega)]
      simp only [Option.bind_some]
      have e2 : gI (sA (sA (wr M 100 at0 t) 102 tp (Int32.ofNat at0)) 103 tp (Int32.ofNat t.length)) 97 9 = Int32.ofNat tp := htp
      rw [e2, st_of (by show tp < gL M 104; omega) (by omega)]
      simp only [Option.bind_some]
      have e3 : gI (sA (sA (sA (wr M 100 at0 t) 102 tp (Int32.ofNat at0)) 103 tp (Int32.ofNat t.length)) 104 tp l3) 97 9 = Int32.ofNat tp := htp
      have e4 : stZ (sA (sA (sA (wr M 100 at0 t) 102 tp (Int32.ofNat at0)) 103 tp (Int32.ofNat t.length)) 104 tp l3) 105 (Int32.ofNat tp) l4 = some (sA (sA (sA (sA (wr M 100 at0 t) 102 tp (Int32.ofNat at0)) 103 tp (Int32.ofNat t.length)) 104 tp l3) 105 tp (nb l4)) := by
        unfold stZ
        have e : (Int32.ofNat tp).toNatClampNeg = tp := by rw [i_cl, i_of (by omega)]; omega
        rw [e, if_neg]
        rw [i_lt, i_of (by omega), i_0]
        have : gL (sA (sA (sA (wr M 100 at0 t) 102 tp (Int32.ofNat at0)) 103 tp (Int32.ofNat t.length)) 104 tp l3) 105 = 400 := hL.2.2.2
        omega
      rw [e3, e4]
      simp only [Option.bind_some]
      have e5 : gI (sI (sA (sA (sA (sA (wr M 100 at0 t) 102 tp (Int32.ofNat at0)) 103 tp (Int32.ofNat t.length)) 104 tp l3) 105 tp (nb l4)) 97 10 (Int32.ofNat at0 + Int32.ofNat t.length)) 97 9 = Int32.ofNat tp := by
        rw [gI_sI, if_neg (by decide)]
        exact htp
      rw [e5, i_add_of, show Int32.ofNat tp + 1 = Int32.ofNat (tp + 1) from i_add_of tp 1]
      rfl
  | cons x v ih =>
    intro u F h1 h2
    rw [List.length_cons] at h2
    have hlen : t.length = u.length + (v.length + 1) := by rw [h1]; simp
    cases F with
    | zero => omega
    | succ F =>
      show m_Mo_place_3b _ (Int32.ofNat at0) (Int32.ofNat t.length) l3 l4 (Int32.ofNat u.length) (wr M 100 at0 u) = _
      unfold m_Mo_place_3b
      rw [if_neg (by rw [i_le_of (by omega) (by omega)]; omega)]
      have hx : gA (wr M 100 at0 u) 101 u.length = Int32.ofNat x := by
        rw [gA_wr, if_neg (by intro q; exact absurd q.1 (by decide))]
        have := ht.2 u.length (by omega)
        rw [Nat.zero_add] at this
        rw [this, h1]
        simp [List.getD_eq_getElem?_getD]
      have hl : u.length < gL (wr M 100 at0 u) 101 := by
        have := ht.1
        show u.length < gL M 101
        omega
      rw [ld_of hl (by omega), hx]
      simp only [Option.bind_some]
      rw [i_add_of, st_of (by show at0 + u.length < gL M 100; omega) (by omega)]
      simp only [Option.bind_some]
      rw [wr_snoc, show Int32.ofNat u.length + 1 = Int32.ofNat (u ++ [x]).length by rw [List.length_append]; exact i_add_of u.length 1]
      exact ih (u ++ [x]) F (by rw [h1]; simp) (by omega)
/-- place: t into w, the stack's new top -/
theorem r_place {M : MS} {at0 tp : Nat} {l3 l4 : Int32} (hL : gL M 102 = 400 ∧ gL M 103 = 400 ∧ gL M 104 = 400 ∧ gL M 105 = 400) (htp : gI M 97 9 = Int32.ofNat tp) (htp2 : tp < 400) {t : List Nat} (ht : At M 101 0 t) (hf : at0 + t.length ≤ gL M 100) (hb : at0 + t.length < 1073741824) :
    m_Mo_place (Int32.ofNat at0) (Int32.ofNat t.length) l3 l4 M = some (plc M at0 t l3 l4 tp, ()) := by
  have h := r_place3 (l3 := l3) (l4 := l4) hL htp htp2 t ht hf hb t [] FU rfl (by unfold FU; omega)
  rw [wr_nil] at h
  unfold m_Mo_place m_Mo_place_3
  exact h
