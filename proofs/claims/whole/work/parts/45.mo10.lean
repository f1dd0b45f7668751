/-! STEP 2: the reference's isAll and simple -/
theorem r_isAll {M : MS} {k p0 : Nat} {u : List Nat} (hk : k < 4000) (h6 : gL M 106 = 4000) (h7 : gL M 107 = 4000) (e6 : gA M 106 k = Int32.ofNat p0) (e7 : gA M 107 k = Int32.ofNat u.length) (hA : At M 100 p0 u) (hs : sm u) (hb : p0 + u.length < 1073741824) :
    m_Mo_isAll (Int32.ofNat k) M = some (M, if u = [6, 0] then 1 else 0) := by
  unfold m_Mo_isAll
  rw [ld_of (by omega) (by omega), e7]
  simp only [Option.bind_some]
  by_cases h2 : u.length = 2
  · rw [if_neg (by rw [h2]; simp), ld_of (by omega) (by omega), e6]
    simp only [Option.bind_some]
    match u, h2 with
    | [x, y], _ =>
      obtain ⟨q1, q2, q3⟩ := hA.cons
      obtain ⟨r1, r2, -⟩ := q3.cons
      have hx := hs x (by simp)
      have hy := hs y (by simp)
      simp only [List.length_cons, List.length_nil] at hb
      rw [ld_of q2 (by omega), q1]
      simp only [Option.bind_some]
      rw [show (6 : Int32) = Int32.ofNat 6 from rfl]
      by_cases hx6 : x = 6
      · subst hx6
        rw [if_neg (by simp), show Int32.ofNat p0 + 1 = Int32.ofNat (p0 + 1) from i_add_of p0 1, ld_of r2 (by omega), r1]
        simp only [Option.bind_some]
        by_cases hy0 : y = 0
        · subst hy0
          rw [if_neg (by decide), if_pos rfl]
        · rw [if_pos (by rw [show (0 : Int32) = Int32.ofNat 0 from rfl, i_eq_of (by omega) (by omega)]; exact hy0), if_neg (fun q => hy0 (by cases q; rfl))]
      · rw [if_pos (by rw [i_eq_of (by omega) (by omega)]; exact hx6), if_neg (fun q => hx6 (by cases q; rfl))]
  · rw [if_pos (by rw [show (2 : Int32) = Int32.ofNat 2 from rfl, i_eq_of (by omega) (by omega)]; exact h2), if_neg (fun q => h2 (by rw [q]; rfl))]
theorem wr_two {M : MS} {x y : Nat} : sA (sA M 101 0 (Int32.ofNat x)) 101 1 (Int32.ofNat y) = wr M 101 0 [x, y] := by
  have e := wr_snoc (M := M) (b := 101) (j := 0) (x := x) (t := [])
  rw [wr_nil, Nat.zero_add] at e
  have e2 := wr_snoc (M := M) (b := 101) (j := 0) (x := y) (t := [x])
  rw [Nat.zero_add] at e2
  rw [show sA M 101 0 (Int32.ofNat x) = wr M 101 0 [x] from e]
  exact e2
/-- simple: no word, or all words -/
theorem r_simple {M : MS} {l1 : Int32} (hf : 2 ≤ gL M 101) (al : Bool) : m_Mo_simple l1 (if al = true then 1 else 0) M = some (wr M 101 0 [if al = true then 6 else 0, 0], if al = true then 2 else 1) := by
  cases al with
  | false =>
    show m_Mo_simple l1 0 M = some (wr M 101 0 [0, 0], 1)
    unfold m_Mo_simple m_Mo_simple_15
    rw [if_pos rfl, show (0 : Int32) = Int32.ofNat 0 from rfl, st_of (by omega) (by omega)]
    simp only [Option.bind_some]
    rw [show (1 : Int32) = Int32.ofNat 1 from rfl, st_of (by show 1 < gL M 101; omega) (by omega)]
    simp only [Option.bind_some]
    rw [wr_two]
    rfl
  | true =>
    show m_Mo_simple l1 1 M = some (wr M 101 0 [6, 0], 2)
    unfold m_Mo_simple m_Mo_simple_15
    rw [if_neg (by decide), show (0 : Int32) = Int32.ofNat 0 from rfl, show (6 : Int32) = Int32.ofNat 6 from rfl, st_of (by omega) (by omega)]
    simp only [Option.bind_some]
    rw [show (1 : Int32) = Int32.ofNat 1 from rfl, st_of (by show 1 < gL M 101; omega) (by omega)]
    simp only [Option.bind_some]
    rw [wr_two]
    rfl
