/-! STEP 2, the class: what a method may have changed and made; rows that grow -/
def pot (M : MS) : Nat := 26 * gL M 3 + 2 * gL M 13 + 2 * gL M 16 + 2 * gL M 18 + 2 * gL M 20 + 2 * gL M 23 + 2 * gL M 79
/-- what was made is paid by the rows' lengths -/
def PG (M M1 : MS) : Prop := (cM M1).2 + pot M ≤ (cM M).2 + pot M1 ∧ 64 * (cM M1).1 + (cM M).2 ≤ 64 * (cM M).1 + (cM M1).2
theorem PG.rf {M : MS} : PG M M := ⟨Nat.le_refl _, Nat.le_refl _⟩
theorem PG.tr {M M1 M2 : MS} (h : PG M M1) (h2 : PG M1 M2) : PG M M2 := by unfold PG at *; omega
theorem PG.of {M M1 : MS} (h1 : cM M1 = cM M) (h2 : gL M1 = gL M) : PG M M1 := by
  unfold PG pot
  rw [h1, h2]
  omega
/-- a call inside the class: these rows and fields may have changed -/
def FC (R : List Nat) (F : List (Nat × Nat)) (M M1 : MS) : Prop := (∀ a, a ∉ R → gA M1 a = gA M a ∧ gJ M1 a = gJ M a ∧ gL M1 a = gL M a) ∧ (∀ o k, (o, k) ∉ F → gI M1 o k = gI M o k) ∧ gD M1 = gD M ∧ cLe M M1 ∧ PG M M1
theorem FC.rf {R : List Nat} {F : List (Nat × Nat)} {M : MS} : FC R F M M := ⟨fun _ _ => ⟨rfl, rfl, rfl⟩, fun _ _ _ => rfl, rfl, cLe.rf, PG.rf⟩
theorem FC.tr {R : List Nat} {F : List (Nat × Nat)} {M M1 M2 : MS} (h : FC R F M M1) (h2 : FC R F M1 M2) : FC R F M M2 :=
  ⟨fun a ha => ⟨(h2.1 a ha).1.trans (h.1 a ha).1, (h2.1 a ha).2.1.trans (h.1 a ha).2.1, (h2.1 a ha).2.2.trans (h.1 a ha).2.2⟩, fun o k hk => (h2.2.1 o k hk).trans (h.2.1 o k hk), h2.2.2.1.trans h.2.2.1, h.2.2.2.1.tr h2.2.2.2.1, h.2.2.2.2.tr h2.2.2.2.2⟩
theorem FC.mono {R R' : List Nat} {F F' : List (Nat × Nat)} {M M1 : MS} (h : FC R F M M1) (hR : R ⊆ R') (hF : F ⊆ F') : FC R' F' M M1 :=
  ⟨fun a ha => h.1 a (fun q => ha (hR q)), fun o k hk => h.2.1 o k (fun q => hk (hF q)), h.2.2⟩
theorem FC.ga {R : List Nat} {F : List (Nat × Nat)} {M M1 : MS} (h : FC R F M M1) {a : Nat} (ha : a ∉ R) : gA M1 a = gA M a := (h.1 a ha).1
theorem FC.gl {R : List Nat} {F : List (Nat × Nat)} {M M1 : MS} (h : FC R F M M1) {a : Nat} (ha : a ∉ R) : gL M1 a = gL M a := (h.1 a ha).2.2
theorem FC.gi {R : List Nat} {F : List (Nat × Nat)} {M M1 : MS} (h : FC R F M M1) {o k : Nat} (ha : (o, k) ∉ F) : gI M1 o k = gI M o k := h.2.1 o k ha
theorem FC.gd {R : List Nat} {F : List (Nat × Nat)} {M M1 : MS} (h : FC R F M M1) : gD M1 = gD M := h.2.2.1
theorem FC.le {R : List Nat} {F : List (Nat × Nat)} {M M1 : MS} (h : FC R F M M1) : cLe M M1 := h.2.2.2.1
theorem FC.of {R : List Nat} {F : List (Nat × Nat)} {M M1 : MS} (h : Fr R F M M1) : FC R F M M1 := ⟨fun a ha => ⟨(h.1 a ha).1, (h.1 a ha).2, by rw [h.ln]⟩, h.2.2.1, h.2.2.2.1, h.le, PG.of h.2.2.2.2 h.ln⟩
/-- the rows that grow have these lengths at least, and the two rows that are swapped don't grow -/
def GD (M : MS) : Prop := x_gr (gD M xWC 1) = false ∧ x_gr (gD M xWC 2) = false
theorem GD.fc {R : List Nat} {F : List (Nat × Nat)} {M M1 : MS} (h : GD M) (hf : FC R F M M1) : GD M1 := by
  unfold GD
  rw [hf.gd]
  exact h
theorem FC.grow {R : List Nat} {F : List (Nat × Nat)} {M : MS} {a n : Nat} (ha : a ∈ R) (hp : a = 13 ∨ a = 16 ∨ a = 18 ∨ a = 20 ∨ a = 23 ∨ a = 79) (hn : 2 * gL M a ≤ n) (h64 : 64 ≤ n) : FC R F M (gG M a n) := by
  refine ⟨fun b hb => ?_, fun _ _ _ => rfl, rfl, ?_, ?_⟩
  · have hne : b ≠ a := fun e => hb (e ▸ ha)
    refine ⟨?_, rfl, ?_⟩
    · funext k
      rw [gA_gG, if_neg hne]
    · rw [gL_gG, if_neg hne]
  · unfold cLe
    rw [cM_gG]
    exact ⟨Nat.le_add_right _ _, Nat.le_add_right _ _⟩
  · unfold PG pot
    rw [cM_gG]
    simp only [gL_gG]
    rcases hp with rfl | rfl | rfl | rfl | rfl | rfl <;> simp <;> omega
/-! Row -/
def RW (M : MS) (o it : Nat) (l : List Nat) : Prop := gI M o 1 = Int32.ofNat l.length ∧ l.length ≤ gL M it ∧ 64 ≤ gL M it ∧ gL M it < 67108864 ∧ ∀ j, j < l.length → gA M it j = Int32.ofNat (l.getD j 0)
/-- a Row and its items -/
def isR (o it : Nat) : Prop := (o = 15 ∧ it = 16) ∨ (o = 17 ∧ it = 18) ∨ (o = 19 ∧ it = 20) ∨ (o = 22 ∧ it = 23) ∨ (o = 78 ∧ it = 79)
theorem isR.kd {o it : Nat} (h : isR o it) : x_kd o = 1 ∧ x_sr o 0 = it ∧ (it = 13 ∨ it = 16 ∨ it = 18 ∨ it = 20 ∨ it = 23 ∨ it = 79) := by
  rcases h with ⟨rfl, rfl⟩ | ⟨rfl, rfl⟩ | ⟨rfl, rfl⟩ | ⟨rfl, rfl⟩ | ⟨rfl, rfl⟩ <;> decide
theorem RW.fc {M M1 : MS} {o it : Nat} {l : List Nat} {R : List Nat} {F : List (Nat × Nat)} (h : RW M o it l) (hf : FC R F M M1) (h1 : it ∉ R) (h2 : (o, 1) ∉ F) : RW M1 o it l := by
  obtain ⟨g1, g2, g3, g4, g5⟩ := h
  exact ⟨by rw [hf.gi h2]; exact g1, by rw [hf.gl h1]; exact g2, by rw [hf.gl h1]; exact g3, by rw [hf.gl h1]; exact g4, fun j hj => by rw [hf.ga h1]; exact g5 j hj⟩
theorem c_size {M : MS} {o it : Nat} {l : List Nat} (hR : isR o it) (h : RW M o it l) : m_Row_size o M = some (M, Int32.ofNat l.length) := by
  unfold m_Row_size
  rw [if_pos hR.kd.1, h.1]
theorem c_clear {M : MS} {o it : Nat} {l : List Nat} (hR : isR o it) (h : RW M o it l) : m_Row_clear o M = some (sI M o 1 0, ()) ∧ RW (sI M o 1 0) o it [] ∧ FC [it] [(o, 1)] M (sI M o 1 0) := by
  refine ⟨?_, ⟨?_, Nat.zero_le _, h.2.2.1, h.2.2.2.1, fun j hj => by simp at hj⟩, FC.of (Fr.stI (by simp))⟩
  · unfold m_Row_clear
    rw [if_pos hR.kd.1]
    rfl
  · rw [gI_sI, if_pos ⟨rfl, rfl⟩]
    rfl
theorem c_get {M : MS} {o it j : Nat} {l : List Nat} (hR : isR o it) (h : RW M o it l) (hj : j < l.length) : m_Row_get o (Int32.ofNat j) M = some (M, Int32.ofNat (l.getD j 0)) := by
  unfold m_Row_get
  have := h.2.1
  have := h.2.2.2.1
  rw [if_pos hR.kd.1, hR.kd.2.1, ld_of (by omega) (by omega), h.2.2.2.2 j hj]
  rfl
theorem c_dropLast {M : MS} {o it x : Nat} {l : List Nat} (hR : isR o it) (h : RW M o it (l ++ [x])) : ∃ M1, m_Row_dropLast o M = some (M1, ()) ∧ RW M1 o it l ∧ FC [it] [(o, 1)] M M1 := by
  obtain ⟨g1, g2, g3, g4, g5⟩ := h
  rw [List.length_append, List.length_singleton] at g1 g2 g5
  refine ⟨sI M o 1 (Int32.ofNat l.length), ?_, ⟨by rw [gI_sI, if_pos ⟨rfl, rfl⟩], by show _ ≤ gL M it; omega, g3, g4, fun j hj => ?_⟩, FC.of (Fr.stI (by simp))⟩
  · unfold m_Row_dropLast
    rw [if_pos hR.kd.1, g1, if_neg (by rw [i_le, i_of (by omega), i_0]; omega), i_pred (by omega) (by omega), Nat.add_sub_cancel]
    rfl
  · rw [gA_sI, g5 j (by omega)]
    congr 1
    rw [List.getD_eq_getElem?_getD, List.getD_eq_getElem?_getD, List.getElem?_append_left hj]
theorem i_x2 (n : Nat) : Int32.ofNat n * 2 = Int32.ofNat (n * 2) := i_mul_of n 2
theorem stG_of {M : MS} {a n : Nat} (h1 : gL M a < n) (h2 : n ≤ 134217728) (hG : GD M) : stG M a (Int32.ofNat n) = some (gG M a n) := by
  unfold stG
  have e : (Int32.ofNat n).toNatClampNeg = n := by rw [i_cl, i_of (by omega)]; omega
  rw [e, if_neg (by
    rw [i_lt, i_of (by omega), i_0, hG.1, hG.2]
    intro q
    rcases q with q | q | q | q | q <;> first | omega | cases q)]
  rfl
theorem c_add29 {M : MS} {o it x : Nat} {l : List Nat} (hR : isR o it) (h : RW M o it l) (hl : l.length < gL M it) : ∃ M1, m_Row_add_29 o (Int32.ofNat x) M = some (M1, ()) ∧ RW M1 o it (l ++ [x]) ∧ FC [it] [(o, 1)] M M1 ∧ gL M1 = gL M := by
  obtain ⟨g1, g2, g3, g4, g5⟩ := h
  refine ⟨sI (sA M it l.length (Int32.ofNat x)) o 1 (Int32.ofNat (l.length + 1)), ?_, ⟨?_, ?_, g3, g4, fun j hj => ?_⟩, FC.of ((Fr.stA (by simp)).tr (Fr.stI (by simp))), rfl⟩
  · unfold m_Row_add_29
    rw [hR.kd.2.1, g1, st_of hl (by omega), Option.bind_some, Option.bind_some, show gI (sA M it l.length (Int32.ofNat x)) o 1 = Int32.ofNat l.length from g1, i_inc]
  · rw [gI_sI, if_pos ⟨rfl, rfl⟩, List.length_append, List.length_singleton]
  · rw [List.length_append, List.length_singleton]
    exact hl
  · rw [List.length_append, List.length_singleton] at hj
    rw [gA_sI, gA_sA, List.getD_eq_getElem?_getD]
    by_cases he : j = l.length
    · rw [if_pos ⟨rfl, he⟩, he]
      simp
    · rw [if_neg (fun q => he q.2), g5 j (by omega), List.getElem?_append_left (by omega), ← List.getD_eq_getElem?_getD]
/-- add: one more at the row's end -/
theorem c_add {M : MS} {o it x : Nat} {l : List Nat} (hR : isR o it) (h : RW M o it l) (hG : GD M) (hl : l.length < 33554432) : ∃ M1, m_Row_add o (Int32.ofNat x) M = some (M1, ()) ∧ RW M1 o it (l ++ [x]) ∧ FC [it] [(o, 1)] M M1 ∧ gL M1 it ≤ max (gL M it) (2 * l.length) := by
  obtain ⟨g1, g2, g3, g4, g5⟩ := id h
  unfold m_Row_add
  rw [if_pos hR.kd.1, hR.kd.2.1, g1]
  by_cases he : l.length = gL M it
  · rw [if_neg (by rw [he]; simp), i_x2, stG_of (by omega) (by omega) hG, Option.bind_some]
    have hfc : FC [it] [(o, 1)] M (gG M it (l.length * 2)) := FC.grow (by simp) hR.kd.2.2 (by omega) (by omega)
    have h2 : RW (gG M it (l.length * 2)) o it l := by
      refine ⟨g1, ?_, ?_, ?_, fun j hj => ?_⟩
      · rw [gL_gG, if_pos rfl]; omega
      · rw [gL_gG, if_pos rfl]; omega
      · rw [gL_gG, if_pos rfl]; omega
      · rw [gA_gG, if_pos rfl, if_pos (by omega)]; exact g5 j hj
    obtain ⟨M1, a1, a2, a3, a4⟩ := c_add29 (x := x) hR h2 (by rw [gL_gG, if_pos rfl]; omega)
    refine ⟨M1, a1, a2, hfc.tr a3, ?_⟩
    rw [a4, gL_gG, if_pos rfl]
    omega
  · rw [if_pos (by rw [i_eq_of (by omega) (by omega)]; exact he)]
    obtain ⟨M1, a1, a2, a3, a4⟩ := c_add29 (x := x) hR h (by omega)
    refine ⟨M1, a1, a2, a3, ?_⟩
    rw [a4]
    omega
