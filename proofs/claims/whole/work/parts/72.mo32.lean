/-! STEP 2: where a word of a term ends, as bits -/
theorem sh_amt : ∀ c : Fin 17, ((Int32.ofNat c.val &&& 31).toBitVec.smod 32).toNat = c.val := by decide
theorem it_shr_g {x c : Nat} (h : x < 2147483648) (hc : c < 17) : Int32.ofNat x >>> (Int32.ofNat c &&& 31) = Int32.ofNat (x / 2 ^ c) := by
  have hd : x / 2 ^ c ≤ x := Nat.div_le_self _ _
  apply Int32.toInt_inj.mp
  rw [i_of (show x / 2 ^ c < 2147483648 by omega)]
  have e : (Int32.ofNat x >>> (Int32.ofNat c &&& 31)).toInt = (Int32.ofNat x).toInt >>> c := by
    have h1 : (Int32.ofNat x >>> (Int32.ofNat c &&& 31)).toInt = ((Int32.ofNat x).toBitVec.sshiftRight ((Int32.ofNat c &&& 31).toBitVec.smod 32).toNat).toInt := rfl
    rw [h1, sh_amt ⟨c, hc⟩, BitVec.toInt_sshiftRight]
    rfl
  rw [e, i_of h, Int.shiftRight_eq_div_pow]
  rfl
/-- v's bits tell P -/
def Mk (v : Int32) (P : Nat → Prop) : Prop := ∃ V, v = Int32.ofNat V ∧ V < 131072 ∧ ∀ j, V.testBit j = true ↔ P j
theorem Mk.ext {v : Int32} {P P' : Nat → Prop} (h : Mk v P) (hP : ∀ j, P j ↔ P' j) : Mk v P' := by
  obtain ⟨V, h1, h2, h3⟩ := h
  exact ⟨V, h1, h2, fun j => (h3 j).trans (hP j)⟩
theorem Mk.bit {v : Int32} {P : Nat → Prop} (h : Mk v P) {m : Nat} (hm : m < 17) : ((v >>> (Int32.ofNat m &&& 31)) &&& (1 : Int32)) = 1 ↔ P m := by
  obtain ⟨V, h1, h2, h3⟩ := h
  have hd : V / 2 ^ m ≤ V := Nat.div_le_self _ _
  have hq : V / 2 ^ m % 2 < 2 := Nat.mod_lt _ (by omega)
  rw [h1, it_shr_g (by omega) hm, show (1 : Int32) = Int32.ofNat 1 from rfl, i_and_of, Nat.and_one_is_mod, i_eq_of (by omega) (by omega), ← h3 m, Nat.testBit_eq_decide_div_mod_eq, decide_eq_true_eq]
theorem Mk.no : Mk 0 (fun _ => False) := ⟨0, rfl, by omega, fun j => by simp⟩
theorem Mk.or {v w : Int32} {P Q : Nat → Prop} (h : Mk v P) (h2 : Mk w Q) : Mk (v ||| w) (fun j => P j ∨ Q j) := by
  obtain ⟨V, a1, a2, a3⟩ := h
  obtain ⟨W, b1, b2, b3⟩ := h2
  refine ⟨V ||| W, by rw [a1, b1, i_or_of], Nat.or_lt_two_pow (n := 17) a2 b2, fun j => ?_⟩
  rw [Nat.testBit_or, Bool.or_eq_true, a3, b3]
theorem Mk.and {v w : Int32} {P Q : Nat → Prop} (h : Mk v P) (h2 : Mk w Q) : Mk (v &&& w) (fun j => P j ∧ Q j) := by
  obtain ⟨V, a1, a2, a3⟩ := h
  obtain ⟨W, b1, b2, b3⟩ := h2
  refine ⟨V &&& W, by rw [a1, b1, i_and_of], Nat.lt_of_le_of_lt Nat.and_le_left a2, fun j => ?_⟩
  rw [Nat.testBit_and, Bool.and_eq_true, a3, b3]
theorem sh_one : ∀ c : Fin 17, (1 : Int32) <<< (Int32.ofNat c.val &&& 31) = Int32.ofNat (2 ^ c.val) := by decide
theorem sh_two : ∀ c : Fin 16, (2 : Int32) <<< (Int32.ofNat c.val &&& 31) = Int32.ofNat (2 ^ (c.val + 1)) := by decide
theorem Mk.pow {m : Nat} (hm : m < 17) : Mk (Int32.ofNat (2 ^ m)) (fun j => j = m) := by
  refine ⟨2 ^ m, rfl, Nat.lt_of_le_of_lt (Nat.pow_le_pow_right (by omega) (show m ≤ 16 by omega)) (by decide), fun j => ?_⟩
  rw [Nat.testBit_two_pow, decide_eq_true_eq]
  exact ⟨fun h => h.symm, fun h => h.symm⟩
theorem Mk.one {m : Nat} (hm : m < 17) : Mk ((1 : Int32) <<< (Int32.ofNat m &&& 31)) (fun j => j = m) := by
  rw [sh_one ⟨m, hm⟩]
  exact Mk.pow hm
theorem Mk.two {m : Nat} (hm : m < 16) : Mk ((2 : Int32) <<< (Int32.ofNat m &&& 31)) (fun j => j = m + 1) := by
  rw [sh_two ⟨m, hm⟩]
  exact Mk.pow (by omega)
def allM (n i : Nat) : Nat := 2 ^ (n + 1) - 2 ^ i
theorem sh_all : ∀ (n i : Fin 17), i.val ≤ n.val → (((1 : Int32) <<< ((Int32.ofNat n.val + 1) &&& 31)) - 1) &&& ((-1 : Int32) <<< (Int32.ofNat i.val &&& 31)) = Int32.ofNat (allM n.val i.val) := by decide +kernel
theorem allM_bit : ∀ (n i j : Fin 17), i.val ≤ n.val → (allM n.val i.val).testBit j.val = decide (i.val ≤ j.val ∧ j.val ≤ n.val) := by decide +kernel
theorem Mk.all0 {n i : Nat} (hn : n < 17) (hi : i ≤ n) : Mk (Int32.ofNat (allM n i)) (fun j => i ≤ j ∧ j ≤ n) := by
  have hlt : allM n i < 131072 := by
    unfold allM
    have h1 : 2 ^ (n + 1) ≤ 2 ^ 17 := Nat.pow_le_pow_right (by omega) (by omega)
    have h2 : 0 < 2 ^ i := Nat.pos_of_ne_zero (by simp)
    have h3 : (2 : Nat) ^ 17 = 131072 := by decide
    omega
  refine ⟨allM n i, rfl, hlt, fun j => ?_⟩
  by_cases hj : j < 17
  · rw [allM_bit ⟨n, hn⟩ ⟨i, by omega⟩ ⟨j, hj⟩ hi, decide_eq_true_eq]
  · rw [Nat.testBit_lt_two_pow (Nat.lt_of_lt_of_le hlt (show 131072 ≤ 2 ^ j from Nat.le_trans (by decide) (Nat.pow_le_pow_right (n := 2) (by omega) (show 17 ≤ j by omega))))]
    constructor
    · intro h; cases h
    · intro h; omega
theorem Mk.all {n i : Nat} (hn : n < 17) (hi : i ≤ n) : Mk ((((1 : Int32) <<< ((Int32.ofNat n + 1) &&& 31)) - 1) &&& ((-1 : Int32) <<< (Int32.ofNat i &&& 31))) (fun j => i ≤ j ∧ j ≤ n) := by
  rw [sh_all ⟨n, hn⟩ ⟨i, by omega⟩ hi]
  exact Mk.all0 hn hi
theorem i_andnot (a v : Nat) : Int32.ofNat a &&& (Int32.ofNat v ^^^ (-1 : Int32)) = Int32.ofNat (a ^^^ (a &&& v)) := by
  apply Int32.toBitVec_inj.mp
  rw [Int32.toBitVec_and, Int32.toBitVec_xor]
  show BitVec.ofNat 32 a &&& (BitVec.ofNat 32 v ^^^ BitVec.allOnes 32) = BitVec.ofNat 32 (a ^^^ (a &&& v))
  rw [BitVec.ofNat_xor, BitVec.ofNat_and]
  apply BitVec.eq_of_getLsbD_eq
  intro i hi
  rw [BitVec.getLsbD_and, BitVec.getLsbD_xor, BitVec.getLsbD_xor, BitVec.getLsbD_and, BitVec.getLsbD_allOnes, decide_eq_true hi]
  cases (BitVec.ofNat 32 a).getLsbD i <;> cases (BitVec.ofNat 32 v).getLsbD i <;> rfl
theorem Mk.andnot {v w : Int32} {P Q : Nat → Prop} (h : Mk v P) (h2 : Mk w Q) : Mk (v &&& (w ^^^ (-1 : Int32))) (fun j => P j ∧ ¬ Q j) := by
  obtain ⟨V, a1, a2, a3⟩ := h
  obtain ⟨W, b1, b2, b3⟩ := h2
  refine ⟨V ^^^ (V &&& W), by rw [a1, b1, i_andnot], Nat.xor_lt_two_pow (n := 17) a2 (Nat.lt_of_le_of_lt Nat.and_le_left a2), fun j => ?_⟩
  show _ ↔ (P j ∧ ¬ Q j)
  rw [Nat.testBit_xor, Nat.testBit_and, ← a3, ← b3]
  cases V.testBit j <;> cases W.testBit j <;> simp
/-! where a word of a term ends -/
def path (a : Nat → Nat → Prop) (i : Nat) (l : List Nat) (j : Nat) : Prop := match l with
  | [] => i = j
  | m :: r => i < m ∧ a i m ∧ path a m r j
def rs (a : Nat → Nat → Prop) (i j : Nat) : Prop := ∃ l, path a i l j
theorem path_app {a : Nat → Nat → Prop} : ∀ (l r : List Nat) (i j : Nat), path a i (l ++ r) j ↔ ∃ m, path a i l m ∧ path a m r j := by
  intro l
  induction l with
  | nil =>
    intro r i j
    exact ⟨fun h => ⟨i, rfl, h⟩, fun ⟨m, h1, h2⟩ => by have h1 : i = m := h1; rw [h1]; exact h2⟩
  | cons x l ih =>
    intro r i j
    constructor
    · intro ⟨h1, h2, h3⟩
      obtain ⟨m, m1, m2⟩ := (ih r x j).mp h3
      exact ⟨m, ⟨h1, h2, m1⟩, m2⟩
    · intro ⟨m, ⟨h1, h2, h3⟩, h4⟩
      exact ⟨h1, h2, (ih r x j).mpr ⟨m, h3, h4⟩⟩
theorem path_le {a : Nat → Nat → Prop} : ∀ (l : List Nat) (i j : Nat), path a i l j → i ≤ j := by
  intro l
  induction l with
  | nil => intro i j h; have h : i = j := h; omega
  | cons x l ih =>
    intro i j ⟨h1, h2, h3⟩
    have := ih x j h3
    omega
theorem rs_le {a : Nat → Nat → Prop} {i j : Nat} (h : rs a i j) : i ≤ j := by
  obtain ⟨l, hl⟩ := h
  exact path_le l i j hl
theorem rs_fwd {a : Nat → Nat → Prop} {i j : Nat} : rs a i j ↔ (i = j ∨ ∃ m, i < m ∧ a i m ∧ rs a m j) := by
  constructor
  · intro ⟨l, hl⟩
    cases l with
    | nil => exact Or.inl hl
    | cons m r => exact Or.inr ⟨m, hl.1, hl.2.1, r, hl.2.2⟩
  · intro h
    rcases h with h | ⟨m, h1, h2, r, h3⟩
    · exact ⟨[], h⟩
    · exact ⟨m :: r, h1, h2, h3⟩
theorem rs_bwd {a : Nat → Nat → Prop} {i j : Nat} : rs a i j ↔ (i = j ∨ ∃ m, m < j ∧ rs a i m ∧ a m j) := by
  constructor
  · intro ⟨l, hl⟩
    rcases List.eq_nil_or_concat l with rfl | ⟨l', m, rfl⟩
    · exact Or.inl hl
    · rw [List.concat_eq_append, path_app] at hl
      obtain ⟨x, h1, h2, h3, h4⟩ := hl
      have h4 : m = j := h4
      rw [← h4]
      exact Or.inr ⟨x, h2, ⟨l', h1⟩, h3⟩
  · intro h
    rcases h with h | ⟨m, h1, ⟨l, h2⟩, h3⟩
    · exact ⟨[], h⟩
    · exact ⟨l ++ [j], (path_app l [j] i j).mpr ⟨m, h2, h1, h3, rfl⟩⟩
/-- a word's letter -/
def ltr (w : Int32) (n i : Nat) : Int32 := (w >>> (((2 : Int32) * ((Int32.ofNat n - 1) - Int32.ofNat i)) &&& 31)) &&& 3
def clT (x : Nat) (w : Int32) (n i : Nat) : Prop := ((Int32.ofNat (x / 8) >>> (ltr w n i &&& 31)) &&& (1 : Int32)) = 1
def spF (w : Int32) (n x : Nat) (ks : List (Nat → Nat → Prop)) : Nat → Nat → Prop := fun i j =>
  if x % 8 = 0 then False
  else if x % 8 = 1 then j = i
  else if x % 8 = 2 then i < n ∧ clT x w n i ∧ j = i + 1
  else if x % 8 = 3 then (match ks with
    | [a, b] => ∃ m, i ≤ m ∧ m ≤ n ∧ a i m ∧ b m j
    | _ => False)
  else if x % 8 = 4 then ∃ k ∈ ks, k i j
  else if x % 8 = 5 then (i ≤ j ∧ j ≤ n) ∧ ∀ k ∈ ks, k i j
  else if x % 8 = 6 then (match ks with
    | [a] => (i ≤ j ∧ j ≤ n) ∧ ¬ a i j
    | _ => False)
  else (match ks with
    | [a] => rs a i j
    | _ => False)
def sp (w : Int32) (n : Nat) (t : List Nat) : Nat → Nat → Prop := vl (spF w n) (fun _ _ => False) t
theorem sp_mk {w : Int32} {n x : Nat} {ps : List (List Nat)} (hx : ar x = ps.length) (hp : ∀ p ∈ ps, wf p) : sp w n (x :: ps.flatten) = spF w n x (ps.map (sp w n)) := vl_mk (spF w n) _ hx hp
theorem rs_rng {a : Nat → Nat → Prop} {n : Nat} (h : ∀ i j, i ≤ n → a i j → i ≤ j ∧ j ≤ n) : ∀ (l : List Nat) (i j : Nat), i ≤ n → path a i l j → j ≤ n := by
  intro l
  induction l with
  | nil => intro i j hi hp; have hp : i = j := hp; omega
  | cons m l ih =>
    intro i j hi ⟨h1, h2, h3⟩
    exact ih m j (h i m hi h2).2 h3
theorem sp_rng {w : Int32} {n : Nat} : ∀ t, wf t → ∀ i j, i ≤ n → sp w n t i j → i ≤ j ∧ j ≤ n := by
  refine wf_ind (P := fun t => ∀ i j, i ≤ n → sp w n t i j → i ≤ j ∧ j ≤ n) (fun x ps hx hp ih => ?_)
  intro i j hi h
  rw [sp_mk hx hp] at h
  have hm8 : x % 8 < 8 := Nat.mod_lt _ (by omega)
  unfold spF at h
  by_cases c0 : x % 8 = 0
  · rw [if_pos c0] at h; exact h.elim
  rw [if_neg c0] at h
  by_cases c1 : x % 8 = 1
  · rw [if_pos c1] at h; omega
  rw [if_neg c1] at h
  by_cases c2 : x % 8 = 2
  · rw [if_pos c2] at h; omega
  rw [if_neg c2] at h
  by_cases c3 : x % 8 = 3
  · rw [if_pos c3] at h
    rw [ar_2 c3] at hx
    match ps, hx, ih, h with
    | [a, b], _, ih, h =>
      obtain ⟨m, h1, h2, h3, h4⟩ := h
      have := ih b (by simp) m j h2 h4
      omega
  rw [if_neg c3] at h
  by_cases c4 : x % 8 = 4
  · rw [if_pos c4] at h
    obtain ⟨f, h1, h2⟩ := h
    obtain ⟨p, h3, rfl⟩ := List.mem_map.mp h1
    exact ih p h3 i j hi h2
  rw [if_neg c4] at h
  by_cases c5 : x % 8 = 5
  · rw [if_pos c5] at h; exact h.1
  rw [if_neg c5] at h
  rw [ar_1 (by omega)] at hx
  match ps, hx, ih, h with
  | [a], _, ih, h =>
    by_cases c6 : x % 8 = 6
    · rw [if_pos c6] at h; exact h.1
    · rw [if_neg c6] at h
      have h : rs (sp w n a) i j := h
      have h2 := rs_le h
      obtain ⟨l, hl⟩ := h
      exact ⟨h2, rs_rng (ih a (by simp)) l i j hi hl⟩
