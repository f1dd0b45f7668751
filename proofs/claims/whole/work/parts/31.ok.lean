/-! STEP 2: models that answer, and what they answer -/
def Ok {α : Type} (x : Option α) (Q : α → Prop) : Prop := ∃ r, x = some r ∧ Q r
theorem Ok.mono {α : Type} {x : Option α} {Q Q' : α → Prop} (h : Ok x Q) (hQ : ∀ r, Q r → Q' r) : Ok x Q' := by
  obtain ⟨r, h1, h2⟩ := h
  exact ⟨r, h1, hQ r h2⟩
theorem ok_some {α : Type} {r : α} {Q : α → Prop} (h : Q r) : Ok (some r) Q := ⟨r, rfl, h⟩
theorem ok_bind {α β : Type} {x : Option β} {k : β → Option α} {Q : α → Prop} (h : Ok x (fun b => Ok (k b) Q)) : Ok (x.bind k) Q := by
  obtain ⟨b, rfl, r, h2, h3⟩ := h
  exact ⟨r, h2, h3⟩
theorem ok_put {α : Type} {M : MS} {k : MS → Option α} {Q : α → Prop} (h : Ok (k M) Q) : Ok ((some M).bind k) Q := h
theorem ok_if {α : Type} {P : Prop} [Decidable P] {a b : Option α} {Q : α → Prop} (h1 : P → Ok a Q) (h2 : ¬ P → Ok b Q) : Ok (if P then a else b) Q := by
  by_cases h : P
  · rw [if_pos h]; exact h1 h
  · rw [if_neg h]; exact h2 h
theorem ok_pos {α : Type} {P : Prop} [Decidable P] {a b : Option α} {Q : α → Prop} (h : P) (h1 : Ok a Q) : Ok (if P then a else b) Q := by rw [if_pos h]; exact h1
theorem ok_neg {α : Type} {P : Prop} [Decidable P] {a b : Option α} {Q : α → Prop} (h : ¬ P) (h1 : Ok b Q) : Ok (if P then a else b) Q := by rw [if_neg h]; exact h1
def cLe (M M1 : MS) : Prop := (cM M).1 ≤ (cM M1).1 ∧ (cM M).2 ≤ (cM M1).2
theorem cLe.rf {M : MS} : cLe M M := ⟨Nat.le_refl _, Nat.le_refl _⟩
theorem cLe.tr {M M1 M2 : MS} (h : cLe M M1) (h2 : cLe M1 M2) : cLe M M2 := ⟨Nat.le_trans h.1 h2.1, Nat.le_trans h.2 h2.2⟩
theorem cLe.of {M M1 : MS} (h : cM M1 = cM M) : cLe M M1 := by unfold cLe; rw [h]; exact ⟨Nat.le_refl _, Nat.le_refl _⟩
theorem ok_cal {α β : Type} {M : MS} {y : Option (MS × β)} {k : MS × β → Option α} {Q : α → Prop} (h : Ok y (fun r => cLe M r.1 ∧ Ok (k r) Q)) : Ok (cal cM M y k) Q := by
  obtain ⟨r, h1, h2, h3⟩ := h
  rw [cal_some h1 h2.1 h2.2]
  exact h3
theorem ok_fx {ι β : Type} {b : (ι → Option β) → ι → Option β} {Q : β → Prop} (inv : ι → Prop) (μ : ι → Nat) (h : ∀ (k : ι → Option β) (i : ι), inv i → (∀ j, inv j → μ j < μ i → Ok (k j) Q) → Ok (b k i) Q) (i : ι) (hi : inv i) (hF : μ i < FU) : Ok (fx b FU i) Q := by
  have q : ∀ (F : Nat) (i : ι), inv i → μ i < F → Ok (fx b F i) Q := by
    intro F
    induction F with
    | zero => intro i _ h; omega
    | succ F ih =>
      intro i hi hF
      exact h (fx b F) i hi (fun j hj hlt => ih j hj (by omega))
  exact q FU i hi hF
/-! ints -/
theorem i_add {a b : Int32} (h1 : -2147483648 ≤ a.toInt + b.toInt) (h2 : a.toInt + b.toInt < 2147483648) : (a + b).toInt = a.toInt + b.toInt := by
  rw [Int32.toInt_add]
  exact Int.bmod_eq_of_le (by omega) (by omega)
theorem i_sub {a b : Int32} (h1 : -2147483648 ≤ a.toInt - b.toInt) (h2 : a.toInt - b.toInt < 2147483648) : (a - b).toInt = a.toInt - b.toInt := by
  rw [Int32.toInt_sub]
  exact Int.bmod_eq_of_le (by omega) (by omega)
theorem i_mul {a b : Int32} (h1 : -2147483648 ≤ a.toInt * b.toInt) (h2 : a.toInt * b.toInt < 2147483648) : (a * b).toInt = a.toInt * b.toInt := by
  rw [Int32.toInt_mul]
  exact Int.bmod_eq_of_le (by omega) (by omega)
theorem i_cl (a : Int32) : a.toNatClampNeg = a.toInt.toNat := rfl
theorem i_of {n : Nat} (h : n < 2147483648) : (Int32.ofNat n).toInt = (n : Int) := Int32.toInt_ofNat_of_lt h
theorem i_le {a b : Int32} : a ≤ b ↔ a.toInt ≤ b.toInt := Int32.le_iff_toInt_le
theorem i_lt {a b : Int32} : a < b ↔ a.toInt < b.toInt := Int32.lt_iff_toInt_lt
theorem i_eq {a b : Int32} : a = b ↔ a.toInt = b.toInt := ⟨fun h => by rw [h], Int32.toInt_inj.mp⟩
theorem i_0 : (0 : Int32).toInt = 0 := rfl
theorem i_1 : (1 : Int32).toInt = 1 := rfl
theorem i_2 : (2 : Int32).toInt = 2 := rfl
theorem i_m1 : (-1 : Int32).toInt = -1 := rfl
/-! reading and writing -/
theorem ok_ldA {M : MS} {a : Nat} {i : Int32} {Q : Int32 → Prop} (h1 : 0 ≤ i.toInt) (h2 : i.toInt < gL M a) (h : Q (gA M a i.toInt.toNat)) : Ok (ldA M a i) Q := by
  unfold ldA
  rw [if_neg (by rw [i_lt, i_0, i_cl]; omega)]
  exact ok_some h
theorem ok_stA {M : MS} {a : Nat} {i x : Int32} {Q : MS → Prop} (h1 : 0 ≤ i.toInt) (h2 : i.toInt < gL M a) (h : Q (sA M a i.toInt.toNat x)) : Ok (stA M a i x) Q := by
  unfold stA
  rw [if_neg (by rw [i_lt, i_0, i_cl]; omega)]
  exact ok_some h
theorem ok_stZ {M : MS} {a : Nat} {i x : Int32} {Q : MS → Prop} (h1 : 0 ≤ i.toInt) (h2 : i.toInt < gL M a) (h : Q (sA M a i.toInt.toNat (nb x))) : Ok (stZ M a i x) Q := by
  unfold stZ
  rw [if_neg (by rw [i_lt, i_0, i_cl]; omega)]
  exact ok_some h
theorem ok_ldJ {M : MS} {a : Nat} {i : Int32} {Q : Int64 → Prop} (h1 : 0 ≤ i.toInt) (h2 : i.toInt < gL M a) (h : Q (gJ M a i.toInt.toNat)) : Ok (ldJ M a i) Q := by
  unfold ldJ
  rw [if_neg (by rw [i_lt, i_0, i_cl]; omega)]
  exact ok_some h
theorem ok_stJ {M : MS} {a : Nat} {i : Int32} {x : Int64} {Q : MS → Prop} (h1 : 0 ≤ i.toInt) (h2 : i.toInt < gL M a) (h : Q (sJ M a i.toInt.toNat x)) : Ok (stJ M a i x) Q := by
  unfold stJ
  rw [if_neg (by rw [i_lt, i_0, i_cl]; omega)]
  exact ok_some h
theorem gA_sA {M : MS} {a j : Nat} {x : Int32} (n k : Nat) : gA (sA M a j x) n k = if n = a ∧ k = j then x else gA M n k := by
  show (if n = a then upd (M.1 a) j x else M.1 n) k = _
  by_cases h : n = a
  · subst h
    rw [if_pos rfl]
    unfold upd
    by_cases hk : k = j <;> simp [hk, gA]
  · rw [if_neg h, if_neg (fun q => h q.1)]
    rfl
theorem gA_sAn {M : MS} {a j n : Nat} {x : Int32} (h : n ≠ a) : gA (sA M a j x) n = gA M n := by
  funext k
  rw [gA_sA, if_neg (fun q => h q.1)]
theorem gL_sA {M : MS} {a j : Nat} {x : Int32} : gL (sA M a j x) = gL M := rfl
theorem gI_sA {M : MS} {a j : Nat} {x : Int32} : gI (sA M a j x) = gI M := rfl
theorem gJ_sA {M : MS} {a j : Nat} {x : Int32} : gJ (sA M a j x) = gJ M := rfl
theorem gD_sA {M : MS} {a j : Nat} {x : Int32} : gD (sA M a j x) = gD M := rfl
theorem cM_sA {M : MS} {a j : Nat} {x : Int32} : cM (sA M a j x) = cM M := rfl
theorem gI_sI {M : MS} {o j : Nat} {x : Int32} (n k : Nat) : gI (sI M o j x) n k = if n = o ∧ k = j then x else gI M n k := by
  show (if n = o then upd (M.2.2.2.1 o) j x else M.2.2.2.1 n) k = _
  by_cases h : n = o
  · subst h
    rw [if_pos rfl]
    unfold upd
    by_cases hk : k = j <;> simp [hk, gI]
  · rw [if_neg h, if_neg (fun q => h q.1)]
    rfl
theorem gA_sI {M : MS} {o j : Nat} {x : Int32} : gA (sI M o j x) = gA M := rfl
theorem gL_sI {M : MS} {o j : Nat} {x : Int32} : gL (sI M o j x) = gL M := rfl
theorem gJ_sI {M : MS} {o j : Nat} {x : Int32} : gJ (sI M o j x) = gJ M := rfl
theorem gD_sI {M : MS} {o j : Nat} {x : Int32} : gD (sI M o j x) = gD M := rfl
theorem cM_sI {M : MS} {o j : Nat} {x : Int32} : cM (sI M o j x) = cM M := rfl
theorem gJ_sJ {M : MS} {a j : Nat} {x : Int64} (n k : Nat) : gJ (sJ M a j x) n k = if n = a ∧ k = j then x else gJ M n k := by
  show (if n = a then vp_updL (M.2.1 a) j x else M.2.1 n) k = _
  by_cases h : n = a
  · subst h
    rw [if_pos rfl]
    unfold vp_updL
    by_cases hk : k = j <;> simp [hk, gJ]
  · rw [if_neg h, if_neg (fun q => h q.1)]
    rfl
theorem gA_sJ {M : MS} {a j : Nat} {x : Int64} : gA (sJ M a j x) = gA M := rfl
theorem gL_sJ {M : MS} {a j : Nat} {x : Int64} : gL (sJ M a j x) = gL M := rfl
theorem gI_sJ {M : MS} {a j : Nat} {x : Int64} : gI (sJ M a j x) = gI M := rfl
theorem gD_sJ {M : MS} {a j : Nat} {x : Int64} : gD (sJ M a j x) = gD M := rfl
theorem cM_sJ {M : MS} {a j : Nat} {x : Int64} : cM (sJ M a j x) = cM M := rfl
/-- a row grown: the first values stay, the new ones are 0 -/
def gG (M : MS) (a n : Nat) : MS := (fun m => if m = a then (fun j => if j < gL M a then gA M a j else 0) else M.1 m, M.2.1, fun m => if m = a then n else M.2.2.1 m, M.2.2.2.1, M.2.2.2.2.1, ((cM M).1 + 1, (cM M).2 + n))
theorem ok_stG {M : MS} {a : Nat} {n : Int32} {Q : MS → Prop} (h1 : (gL M a : Int) < n.toInt) (h2 : n.toInt ≤ 134217728) (h3 : x_gr (gD M xWC 1) = false) (h4 : x_gr (gD M xWC 2) = false) (h : Q (gG M a n.toInt.toNat)) : Ok (stG M a n) Q := by
  unfold stG
  rw [if_neg (by rw [i_lt, i_0, i_cl, h3, h4]; intro q; rcases q with q | q | q | q | q <;> first | omega | cases q)]
  exact ok_some h
theorem gA_gG {M : MS} {a n : Nat} (m k : Nat) : gA (gG M a n) m k = if m = a then (if k < gL M a then gA M a k else 0) else gA M m k := by
  show (if m = a then (fun j => if j < gL M a then gA M a j else 0) else M.1 m) k = _
  by_cases h : m = a
  · rw [if_pos h, if_pos h]
  · rw [if_neg h, if_neg h]; rfl
theorem gL_gG {M : MS} {a n : Nat} (m : Nat) : gL (gG M a n) m = if m = a then n else gL M m := rfl
theorem gI_gG {M : MS} {a n : Nat} : gI (gG M a n) = gI M := rfl
theorem gJ_gG {M : MS} {a n : Nat} : gJ (gG M a n) = gJ M := rfl
theorem gD_gG {M : MS} {a n : Nat} : gD (gG M a n) = gD M := rfl
theorem cM_gG {M : MS} {a n : Nat} : cM (gG M a n) = ((cM M).1 + 1, (cM M).2 + n) := rfl
