/-! STEP 2: the reference's tell and witness -/
theorem i_div_of {a b : Nat} (ha : a < 2147483648) (hb : b < 2147483648) : Int32.ofNat a / Int32.ofNat b = Int32.ofNat (a / b) := by
  have hd : a / b ≤ a := Nat.div_le_self _ _
  apply Int32.toInt_inj.mp
  rw [Int32.toInt_div, i_of ha, i_of hb, i_of (by omega), ← Int.ofNat_tdiv]
  generalize a / b = k at *
  exact Int.bmod_eq_of_le (by omega) (by omega)
theorem i_rem_of {a b : Nat} (ha : a < 2147483648) (hb : b < 2147483648) (hb0 : 0 < b) : Int32.ofNat a - Int32.ofNat a / Int32.ofNat b * Int32.ofNat b = Int32.ofNat (a % b) := by
  have h1 : a / b * b ≤ a := Nat.div_mul_le_self _ _
  rw [i_div_of ha hb, i_mul_of, i_sub_of ha h1]
  congr 1
  have := Nat.div_add_mod a b
  rw [Nat.mul_comm] at this
  omega
theorem i_div4 {a : Nat} (ha : a < 2147483648) : Int32.ofNat a / (4 : Int32) = Int32.ofNat (a / 4) := i_div_of (b := 4) ha (by omega)
theorem i_rem4 {a : Nat} (ha : a < 2147483648) : Int32.ofNat a - Int32.ofNat a / (4 : Int32) * (4 : Int32) = Int32.ofNat (a % 4) := i_rem_of (b := 4) ha (by omega) (by omega)
theorem sI_sI {M : MS} {o j : Nat} {x y : Int32} : sI (sI M o j x) o j y = sI M o j y := by
  show (M.1, M.2.1, M.2.2.1, (fun n => if n = o then upd ((fun n => if n = o then upd (M.2.2.2.1 o) j x else M.2.2.2.1 n) o) j y else (fun n => if n = o then upd (M.2.2.2.1 o) j x else M.2.2.2.1 n) n), M.2.2.2.2) = (M.1, M.2.1, M.2.2.1, (fun n => if n = o then upd (M.2.2.2.1 o) j y else M.2.2.2.1 n), M.2.2.2.2)
  congr 3
  congr 1
  funext n
  by_cases h : n = o
  · simp only [h, if_true]
    funext k
    unfold upd
    by_cases hk : k = j <;> simp [hk]
  · simp only [h, if_false]
/-- how the pairs' words came about -/
def FM (M : MS) (D : Nat → List Nat) (n : Nat) : Prop := D 0 = [] ∧ gA M 118 0 = -1 ∧ ∀ m, 0 < m → m < n → ∃ f d, f < m ∧ d < 4 ∧ D m = D f ++ [d] ∧ gA M 118 m = Int32.ofNat (4 * f + d)
theorem FM.len {M : MS} {D : Nat → List Nat} {n : Nat} (h : FM M D n) : ∀ m, m < n → (D m).length ≤ m := by
  intro m
  induction m using Nat.strongRecOn with
  | ind m ih =>
    intro hm
    by_cases h0 : m = 0
    · rw [h0, h.1]; exact Nat.le_refl _
    · obtain ⟨f, d, h1, h2, h3, h4⟩ := h.2.2 m (by omega) hm
      have := ih f h1 (by omega)
      rw [h3, List.length_append, List.length_singleton]
      omega
theorem r_tell7 {M : MS} {D : Nat → List Nat} {n k : Nat} (h18 : gL M 118 = 22500) (hn : n ≤ 22500) (hF : FM M D n) : ∀ (m a F : Nat), m < n → a + m < 100000 → m < F → fx (fun (k : Int32 × Int32 × MS → Option (MS × Unit)) (i : Int32 × Int32 × MS) => m_Mo_tell_7b k i.1 i.2.1 i.2.2) F (Int32.ofNat k, Int32.ofNat m, sI M 97 27 (Int32.ofNat a)) = m_Mo_tell_46 (Int32.ofNat (a + (D m).length), Int32.ofNat k, sI M 97 27 (Int32.ofNat (a + (D m).length))) := by
  intro m
  induction m using Nat.strongRecOn with
  | ind m ih =>
    intro a F hm ha hF2
    cases F with
    | zero => omega
    | succ F =>
      show m_Mo_tell_7b _ (Int32.ofNat k) (Int32.ofNat m) (sI M 97 27 (Int32.ofNat a)) = _
      have hg : ∀ x : Int32, gI (sI M 97 27 x) 97 27 = x := fun x => by rw [gI_sI, if_pos ⟨rfl, rfl⟩]
      unfold m_Mo_tell_7b
      rw [ld_of (by show _ < gL M 118; omega) (by omega), hg]
      simp only [Option.bind_some, gA_sI]
      by_cases h0 : m = 0
      · subst h0
        rw [hF.2.1, if_pos rfl, hF.1]
        rfl
      · obtain ⟨f, d, h1, h2, h3, h4⟩ := hF.2.2 m (by omega) hm
        rw [h4, if_neg (i_nm1 (by omega)), sI_sI, i_inc, ld_of (by show _ < gL M 118; omega) (by omega)]
        simp only [Option.bind_some, gA_sI]
        rw [h4, i_div4 (by omega), show (4 * f + d) / 4 = f by omega]
        have := ih f h1 (a + 1) F (by omega) (by omega) (by omega)
        refine this.trans ?_
        rw [h3, List.length_append, List.length_singleton, show a + 1 + (D f).length = a + ((D f).length + 1) by omega]
theorem r_tell46s {M : MS} {k : Int32 × Int32 × MS → Option (MS × Unit)} {m n f d : Nat} (h18 : gL M 118 = 22500) (h19 : gL M 119 = 22600) (hm : m < 22500) (hn : n < 22500) (hf : f < m) (hd : d < 4) (h4 : gA M 118 m = Int32.ofNat (4 * f + d)) : m_Mo_tell_46b k (Int32.ofNat (n + 1)) (Int32.ofNat m) M = k (Int32.ofNat n, Int32.ofNat f, sA M 119 n (Int32.ofNat d)) := by
  unfold m_Mo_tell_46b
  rw [ld_of (by omega) (by omega), h4, Option.bind_some, if_neg (i_nm1 (by omega)), Option.bind_some, i_rem4 (by omega), show (4 * f + d) % 4 = d by omega, i_dec (by omega) (by omega), Nat.add_sub_cancel, st_of (by omega) (by omega), Option.bind_some, ld_of (by rw [gL_sA]; omega) (by omega), gA_sA, if_neg (by omega), h4, Option.bind_some, i_div4 (by omega), show (4 * f + d) / 4 = f by omega]
theorem At_front {M : MS} {a d : Nat} {s : List Nat} (hA : At M 119 (a + 1) s) : At (sA M 119 a (Int32.ofNat d)) 119 a (d :: s) := by
  have hA1 := hA.1
  refine ⟨by rw [gL_sA, List.length_cons]; omega, fun j hj => ?_⟩
  rw [List.length_cons] at hj
  rw [gA_sA]
  cases j with
  | zero => rw [if_pos ⟨rfl, by omega⟩, List.getD_cons_zero]
  | succ j => rw [if_neg (by omega), show a + (j + 1) = a + 1 + j by omega, hA.2 j (by omega), List.getD_cons_succ]
theorem FM.fr {M M1 : MS} {D : Nat → List Nat} {n : Nat} {R : List Nat} {F : List (Nat × Nat)} (h : FM M D n) (hf : Fr R F M M1) (h1 : 118 ∉ R) : FM M1 D n := by
  refine ⟨h.1, by rw [hf.ga h1]; exact h.2.1, fun x hx hxn => ?_⟩
  obtain ⟨f, d, q1, q2, q3, q4⟩ := h.2.2 x hx hxn
  exact ⟨f, d, q1, q2, q3, by rw [hf.ga h1]; exact q4⟩
theorem r_tell46 {D : Nat → List Nat} {n : Nat} (hn : n ≤ 22500) : ∀ (m : Nat) (M : MS) (s : List Nat) (F : Nat), m < n → gL M 118 = 22500 → gL M 119 = 22600 → FM M D n → At M 119 (D m).length s → m < F → ∃ M1, fx (fun (k : Int32 × Int32 × MS → Option (MS × Unit)) (i : Int32 × Int32 × MS) => m_Mo_tell_46b k i.1 i.2.1 i.2.2) F (Int32.ofNat (D m).length, Int32.ofNat m, M) = some (M1, ()) ∧ At M1 119 0 (D m ++ s) ∧ Fr [119] [] M M1 := by
  intro m
  induction m using Nat.strongRecOn with
  | ind m ih =>
    intro M s F hm h18 h19 hF hA hF2
    have hl := hF.len m hm
    cases F with
    | zero => omega
    | succ F =>
      by_cases h0 : m = 0
      · subst h0
        refine ⟨M, ?_, ?_, Fr.rf⟩
        · show m_Mo_tell_46b _ (Int32.ofNat (D 0).length) (Int32.ofNat 0) M = some (M, ())
          generalize fx (fun (k : Int32 × Int32 × MS → Option (MS × Unit)) (i : Int32 × Int32 × MS) => m_Mo_tell_46b k i.1 i.2.1 i.2.2) F = k
          unfold m_Mo_tell_46b
          rw [ld_of (by omega) (by omega), hF.2.1, Option.bind_some, if_pos rfl]
        · rw [hF.1] at hA ⊢
          rw [List.nil_append]
          rw [List.length_nil] at hA
          exact hA
      · obtain ⟨f, d, h1, h2, h3, h4⟩ := hF.2.2 m (by omega) hm
        rw [h3, List.length_append, List.length_singleton] at hA hl
        have hfr : Fr [119] [] M (sA M 119 (D f).length (Int32.ofNat d)) := Fr.stA (by decide)
        obtain ⟨M1, g1, g2, g3⟩ := ih f h1 (sA M 119 (D f).length (Int32.ofNat d)) (d :: s) F (by omega) (by rw [gL_sA]; exact h18) (by rw [gL_sA]; exact h19) (hF.fr hfr (by decide)) (At_front hA) (by omega)
        refine ⟨M1, ?_, ?_, hfr.tr g3⟩
        · refine Eq.trans ?_ g1
          rw [h3, List.length_append, List.length_singleton]
          exact r_tell46s h18 h19 (by omega) (by omega) h1 h2 h4
        · rw [h3, List.append_assoc]
          exact g2
theorem r_tell {M : MS} {D : Nat → List Nat} {n k : Nat} (h18 : gL M 118 = 22500) (h19 : gL M 119 = 22600) (hn : n ≤ 22500) (hF : FM M D n) (hk : k < n) : ∃ M1, m_Mo_tell (Int32.ofNat k) M = some (M1, ()) ∧ gI M1 97 27 = Int32.ofNat (D k).length ∧ At M1 119 0 (D k) ∧ Fr [119] [(97, 27)] M M1 := by
  have hl := hF.len k hk
  have h7 := r_tell7 (k := k) h18 hn hF k 0 FU hk (by omega) (by unfold FU; omega)
  rw [Nat.zero_add] at h7
  have hfr : Fr [119] [(97, 27)] M (sI M 97 27 (Int32.ofNat (D k).length)) := Fr.stI (by decide)
  obtain ⟨M1, g1, g2, g3⟩ := r_tell46 (D := D) hn k (sI M 97 27 (Int32.ofNat (D k).length)) [] FU hk h18 h19 hF ⟨by show (D k).length + 0 ≤ gL M 119; omega, fun j hj => by simp at hj⟩ (by unfold FU; omega)
  rw [List.append_nil] at g2
  refine ⟨M1, ?_, ?_, g2, hfr.tr (g3.mono (by decide) (by decide))⟩
  · unfold m_Mo_tell
    simp only [Option.bind_some]
    exact h7.trans g1
  · rw [g3.gi (by decide), gI_sI, if_pos ⟨rfl, rfl⟩]
/-- what witness answers -/
def wtA (W : Option (List Nat)) (i : Int32) : Int32 := match W with
  | none => -1
  | some w => if i.toInt < -1 ∨ (w.length : Int) ≤ i.toInt then -1 else if i = -1 then Int32.ofNat w.length else Int32.ofNat (w.getD i.toInt.toNat 0)
theorem r_witness {S : Nat → List Nat} {W : Option (List Nat)} {M : MS} {i : Int32} (hI : RI S W M) : RA S W M (m_Mo_witness i M) (wtA W i) 0 := by
  have hI0 := hI.thr 0
  have hth : gI (sI M 97 0 0) 97 0 = 0 := by rw [gI_sI, if_pos ⟨rfl, rfl⟩]
  have hF0 : FrR M (sI M 97 0 0) := FrR.thr 0
  unfold m_Mo_witness
  simp only [Option.bind_some]
  generalize sI M 97 0 0 = M1 at hI0 hth hF0
  have fin : ∀ v : Int32, RA S W M (some (M1, v)) v 0 := fun v => ⟨M1, rfl, hI0, hF0, hth⟩
  obtain ⟨hL, hSl, hWt⟩ := id hI0
  have l19 := hL.2.2.2.2.2.2.1
  cases W with
  | none =>
    have hW : gI M1 97 27 = -1 := hWt
    rw [hW, if_pos rfl]
    exact fin _
  | some w =>
    obtain ⟨w1, w2, w3⟩ := hWt
    have hwl := w2.1
    rw [w1, if_neg (i_nm1 (by omega))]
    show RA S (some w) M _ (if i.toInt < -1 ∨ (w.length : Int) ≤ i.toInt then -1 else if i = -1 then Int32.ofNat w.length else Int32.ofNat (w.getD i.toInt.toNat 0)) 0
    by_cases h1 : i.toInt < -1
    · rw [if_pos (by rw [i_lt, i_m1]; exact h1), if_pos (Or.inl h1)]
      exact fin _
    · rw [if_neg (by rw [i_lt, i_m1]; exact h1)]
      by_cases h2 : i.toInt < w.length
      · rw [if_pos (by rw [i_lt, i_of (by omega)]; exact h2), if_neg (show ¬ (i.toInt < -1 ∨ (w.length : Int) ≤ i.toInt) by omega)]
        by_cases h3 : i = -1
        · rw [if_neg (show ¬ ¬ i = -1 from fun q => q h3), if_pos h3]
          exact fin _
        · have h4 : ¬ i.toInt = -1 := fun q => h3 (i_eq.mpr (by rw [q, i_m1]))
          have h5 : i = Int32.ofNat i.toInt.toNat := by
            rw [i_eq, i_of (by omega)]
            omega
          have h6 := w2.2 i.toInt.toNat (by omega)
          rw [Nat.zero_add] at h6
          rw [if_pos h3, if_neg h3]
          have h7 : ldA M1 119 i = some (gA M1 119 i.toInt.toNat) := by
            conv => lhs; rw [h5]
            exact ld_of (by omega) (by omega)
          rw [h7, h6]
          exact fin _
      · rw [if_neg (by rw [i_lt, i_of (by omega)]; exact h2), if_pos (Or.inr (by omega))]
        exact fin _
