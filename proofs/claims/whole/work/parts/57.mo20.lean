/-! STEP 2: what the reference holds between calls; letters -/
def RLx (g : Nat → Nat) : Prop := RL g ∧ (g 98 = 1600 ∧ g 99 = 16) ∧ (g 108 = 45000 ∧ g 109 = 150 ∧ g 110 = 600 ∧ g 111 = 600 ∧ g 112 = 150 ∧ g 113 = 150 ∧ g 114 = 150 ∧ g 115 = 150) ∧ (g 116 = 2700 ∧ g 117 = 22500 ∧ g 118 = 22500 ∧ g 119 = 22600 ∧ g 120 = 22500 ∧ g 121 = 1700 ∧ g 122 = 100)
def okT (t : List Nat) : Prop := wf t ∧ pr t ∧ t.length ≤ 100
/-- the reference holds these terms in its slots, and this word -/
def RI (S : Nat → List Nat) (W : Option (List Nat)) (M : MS) : Prop := RLx (gL M) ∧ (∀ s, s < 16 → At M 98 (100 * s) (S s) ∧ gA M 99 s = Int32.ofNat (S s).length ∧ okT (S s)) ∧ (match W with
  | none => gI M 97 27 = -1
  | some w => gI M 97 27 = Int32.ofNat w.length ∧ At M 119 0 w ∧ ∀ x ∈ w, x < 4)
theorem RI.fr {S : Nat → List Nat} {W : Option (List Nat)} {M M1 : MS} {R : List Nat} {F : List (Nat × Nat)} (h : RI S W M) (hf : Fr R F M M1) (h1 : 98 ∉ R) (h2 : 99 ∉ R) (h3 : 119 ∉ R) (h4 : (97, 27) ∉ F) : RI S W M1 := by
  obtain ⟨g1, g2, g3⟩ := h
  refine ⟨by rw [hf.ln]; exact g1, fun s hs => ?_, ?_⟩
  · obtain ⟨q1, q2, q3⟩ := g2 s hs
    exact ⟨q1.fr hf h1, by rw [hf.ga h2]; exact q2, q3⟩
  · cases W with
    | none => show gI M1 97 27 = -1; rw [hf.gi h4]; exact g3
    | some w =>
      obtain ⟨q1, q2, q3⟩ := g3
      exact ⟨by rw [hf.gi h4]; exact q1, q2.fr hf h3, q3⟩
/-- a call of the reference leaves the class alone -/
def FrR (M M1 : MS) : Prop := (∀ a, a < 97 ∨ 122 < a → gA M1 a = gA M a ∧ gJ M1 a = gJ M a) ∧ gL M1 = gL M ∧ (∀ o k, o ≠ 97 → gI M1 o k = gI M o k) ∧ gD M1 = gD M ∧ cM M1 = cM M
theorem FrR.rf {M : MS} : FrR M M := ⟨fun _ _ => ⟨rfl, rfl⟩, rfl, fun _ _ _ => rfl, rfl, rfl⟩
theorem FrR.tr {M M1 M2 : MS} (h : FrR M M1) (h2 : FrR M1 M2) : FrR M M2 :=
  ⟨fun a ha => ⟨(h2.1 a ha).1.trans (h.1 a ha).1, (h2.1 a ha).2.trans (h.1 a ha).2⟩, h2.2.1.trans h.2.1, fun o k hk => (h2.2.2.1 o k hk).trans (h.2.2.1 o k hk), h2.2.2.2.1.trans h.2.2.2.1, h2.2.2.2.2.trans h.2.2.2.2⟩
theorem FrR.le {M M1 : MS} (h : FrR M M1) : cLe M M1 := cLe.of h.2.2.2.2
theorem Fr.toR {R : List Nat} {F : List (Nat × Nat)} {M M1 : MS} (h : Fr R F M M1) (hR : ∀ a ∈ R, 97 ≤ a ∧ a ≤ 122) (hF : ∀ p ∈ F, p.1 = 97) : FrR M M1 :=
  ⟨fun a ha => h.1 a (fun q => by have := hR a q; omega), h.2.1, fun o k hk => h.2.2.1 o k (fun q => hk (hF _ q)), h.2.2.2⟩
def slB (a : Int32) : Bool := decide (0 ≤ a.toInt ∧ a.toInt < 16)
theorem slB_of {a : Int32} (h : slB a = true) : ∃ s : Nat, s < 16 ∧ a = Int32.ofNat s := by
  unfold slB at h
  rw [decide_eq_true_eq] at h
  refine ⟨a.toInt.toNat, by omega, ?_⟩
  rw [i_eq, i_of (by omega)]
  omega
theorem slB_nat {s : Nat} (h : s < 16) : slB (Int32.ofNat s) = true := by
  unfold slB
  rw [decide_eq_true_eq, i_of (by omega)]
  omega
theorem i_16 : (16 : Int32).toInt = 16 := rfl
theorem r_isSlot (a : Int32) (M : MS) : m_Mo_isSlot a M = some (M, b01 (slB a)) := by
  unfold m_Mo_isSlot slB
  by_cases h1 : a.toInt < 0
  · rw [if_pos (by rw [i_lt, i_0]; exact h1), decide_eq_false (by omega)]
    rfl
  · rw [if_neg (by rw [i_lt, i_0]; exact h1)]
    by_cases h2 : a.toInt < 16
    · rw [if_neg (by rw [i_le, i_16]; omega), decide_eq_true (by omega)]
      rfl
    · rw [if_pos (by rw [i_le, i_16]; omega), decide_eq_false (by omega)]
      rfl
def tc (x y : Bool) : Int32 := if x = true then 1 else if y = true then 2 else 0
theorem r_fails (x y : Bool) (M : MS) : m_Mo_fails (b01 x) (b01 y) M = some (sI M 97 0 (tc x y), b01 (x || y)) := by
  have hg : ∀ v : Int32, gI (sI M 97 0 v) 97 0 = v := fun v => by rw [gI_sI, if_pos ⟨rfl, rfl⟩]
  unfold m_Mo_fails m_Mo_fails_18
  simp only [Option.bind_some]
  cases x with
  | true =>
    rw [if_neg (by decide), hg, if_neg (by decide)]
    rfl
  | false =>
    rw [if_pos (by decide)]
    cases y with
    | true =>
      rw [if_neg (by decide), hg, if_neg (by decide)]
      rfl
    | false =>
      rw [if_pos (by decide), hg, if_pos (by decide)]
      rfl
theorem r_fail1 (M : MS) : m_Mo_fails (1 : Int32) (0 : Int32) M = some (sI M 97 0 1, 1) := r_fails true false M
theorem r_fail2 (M : MS) : m_Mo_fails (0 : Int32) (1 : Int32) M = some (sI M 97 0 2, 1) := r_fails false true M
theorem r_fail0 (M : MS) : m_Mo_fails (0 : Int32) (0 : Int32) M = some (sI M 97 0 0, 0) := r_fails false false M
theorem cal_sI {α β : Type} {M : MS} {o j : Nat} {x : Int32} {v : β} {k : MS × β → Option α} : cal cM M (some (sI M o j x, v)) k = k (sI M o j x, v) := cal_some rfl (Nat.le_refl _) (Nat.le_refl _)
def kAns (t : List Nat) : Int32 := if t.length ≤ 100 then Int32.ofNat t.length else -1
def kS (S : Nat → List Nat) (s : Nat) (t : List Nat) : Nat → List Nat := fun k => if k = s ∧ t.length ≤ 100 then t else S k
/-- keep, told by what the slots hold then -/
theorem d_keep {S : Nat → List Nat} {W : Option (List Nat)} {M : MS} {s : Nat} {t : List Nat} (hI : RI S W M) (hs : s < 16) (wt : wf t) (pt' : pr t) (ht : t.length ≤ 100 → At M 101 0 t) (hl : t.length < 1000000) :
    ∃ M1, m_Mo_keep (Int32.ofNat s) (Int32.ofNat t.length) M = some (M1, kAns t) ∧ RI (kS S s t) W M1 ∧ FrR M M1 ∧ gI M1 97 0 = gI M 97 0 := by
  obtain ⟨g1, g2, g3⟩ := hI
  have g1' := g1
  obtain ⟨-, ⟨l8, l9⟩, -, -⟩ := g1'
  unfold kAns kS
  by_cases h : t.length ≤ 100
  · rw [if_pos h]
    refine ⟨_, r_keep hs l8 l9 (ht h) h, ⟨g1, fun k hk => ?_, ?_⟩, ?_, rfl⟩
    · obtain ⟨q1, q2, q3⟩ := g2 k hk
      have hql := q3.2.2
      by_cases hks : k = s
      · subst hks
        simp only [h, and_self, if_true]
        refine ⟨(At_wr (by show _ ≤ gL M 98; omega)).sA_ne (by decide), ?_, wt, pt', h⟩
        rw [gA_sA, if_pos ⟨rfl, rfl⟩]
      · simp only [hks, false_and, if_false]
        refine ⟨(At_wr_dis (by omega) q1).sA_ne (by decide), ?_, q3⟩
        rw [gA_sA, if_neg (by omega), gA_wr, if_neg (by omega)]
        exact q2
    · cases W with
      | none => exact g3
      | some w =>
        obtain ⟨q1, q2, q3⟩ := g3
        exact ⟨q1, (At_wr_ne (by decide) q2).sA_ne (by decide), q3⟩
    · exact ((Fr.wr (R := [98, 99]) (F := []) (by decide)).tr (Fr.stA (by decide))).toR (by decide) (by decide)
  · rw [if_neg h]
    refine ⟨M, r_keepN (by omega) (by omega), ⟨g1, fun k hk => ?_, g3⟩, FrR.rf, rfl⟩
    simp only [h, and_false, if_false]
    exact g2 k hk
theorem RI.thr {S : Nat → List Nat} {W : Option (List Nat)} {M : MS} (h : RI S W M) (v : Int32) : RI S W (sI M 97 0 v) := h.fr (R := []) (F := [(97, 0)]) (Fr.stI (by decide)) (by decide) (by decide) (by decide) (by decide)
theorem FrR.thr {M : MS} (v : Int32) : FrR M (sI M 97 0 v) := (Fr.stI (R := []) (F := [(97, 0)]) (by decide)).toR (by decide) (by decide)
/-- how a call of the reference ends: what it answers, whether it throws, what it holds then -/
def RA (S : Nat → List Nat) (W : Option (List Nat)) (M : MS) {β : Type} (x : Option (MS × β)) (v : β) (th : Int32) : Prop := ∃ M1, x = some (M1, v) ∧ RI S W M1 ∧ FrR M M1 ∧ gI M1 97 0 = th
theorem RA.fail {S : Nat → List Nat} {W : Option (List Nat)} {M : MS} (h : RI S W M) {β : Type} (v : β) (th : Int32) : RA S W M (some (sI M 97 0 th, v)) v th := ⟨_, rfl, h.thr th, FrR.thr th, by rw [gI_sI, if_pos ⟨rfl, rfl⟩]⟩
theorem RA.keep {S : Nat → List Nat} {W : Option (List Nat)} {M M0 : MS} {s : Nat} {t : List Nat} (h0 : FrR M0 M) (hth : gI M 97 0 = 0) (hI : RI S W M) (hs : s < 16) (wt : wf t) (pt' : pr t) (ht : t.length ≤ 100 → At M 101 0 t) (hl : t.length < 1000000) :
    RA (kS S s t) W M0 (cal cM M (m_Mo_keep (Int32.ofNat s) (Int32.ofNat t.length) M) fun r => some (r.1, r.2)) (kAns t) 0 := by
  obtain ⟨M1, q1, q2, q3, q4⟩ := d_keep hI hs wt pt' ht hl
  refine ⟨M1, ?_, q2, h0.tr q3, by rw [q4]; exact hth⟩
  rw [cal_some q1 q3.le.1 q3.le.2]
def ltT (l : Nat) : List Nat := if l = 0 then [0] else if l = 16 then [1] else [2 + 8 * l]
theorem ok_ltT {l : Nat} (h : l ≤ 16) : okT (ltT l) := by
  unfold ltT
  split
  · exact ⟨wf_0, pr_0, by decide⟩
  · split
    · exact ⟨wf_1, pr_1, by decide⟩
    · refine ⟨wf_leaf (ar_cl l), fun x hx => ?_, by simp⟩
      rw [List.mem_singleton.mp hx]
      left
      omega
theorem At_one {M : MS} {x : Nat} (ht : 1 ≤ gL M 101) : At (sA M 101 0 (Int32.ofNat x)) 101 0 [x] := by
  refine ⟨ht, fun k hk => ?_⟩
  have hk2 : k < 1 := hk
  have : k = 0 := by omega
  subst this
  rw [gA_sA, if_pos ⟨rfl, rfl⟩]
  rfl
theorem r_letters_bad1 {S : Nat → List Nat} {W : Option (List Nat)} {M : MS} {a b : Int32} (hI : RI S W M) (h : slB a = false) : RA S W M (m_Mo_letters a b M) 0 1 := by
  unfold m_Mo_letters m_Mo_letters_15 m_Mo_letters_33 m_Mo_letters_34
  rw [r_isSlot, cal_same, h]
  rw [if_neg (by show ¬ ¬ b01 false = 0; decide), if_pos (by show b01 false = 0; decide)]
  rw [r_fail1, cal_sI, if_neg (by show ¬ (1 : Int32) = 0; decide)]
  exact RA.fail hI _ _
theorem r_letters_bad2 {S : Nat → List Nat} {W : Option (List Nat)} {M : MS} {a b : Int32} (hI : RI S W M) (h : slB a = true) (hb : b.toInt < 0 ∨ 16 < b.toInt) : RA S W M (m_Mo_letters a b M) 0 2 := by
  unfold m_Mo_letters m_Mo_letters_15 m_Mo_letters_29 m_Mo_letters_34
  rw [r_isSlot, cal_same, h]
  rw [if_pos (by show ¬ b01 true = 0; decide), if_neg (by show ¬ b01 true = 0; decide)]
  rw [r_fail2, cal_sI]
  by_cases h1 : b.toInt < 0
  · rw [if_pos (by rw [i_lt, i_0]; exact h1), if_neg (by show ¬ (1 : Int32) = 0; decide)]
    exact RA.fail hI _ _
  · rw [if_neg (by rw [i_lt, i_0]; exact h1), if_neg (by rw [i_le, i_16]; omega), if_neg (by show ¬ (1 : Int32) = 0; decide)]
    exact RA.fail hI _ _
theorem r_letters {S : Nat → List Nat} {W : Option (List Nat)} {M : MS} {s l : Nat} (hI : RI S W M) (hs : s < 16) (hl : l ≤ 16) : RA (kS S s (ltT l)) W M (m_Mo_letters (Int32.ofNat s) (Int32.ofNat l) M) (kAns (ltT l)) 0 := by
  have hL := hI.1.1.2.1
  unfold m_Mo_letters m_Mo_letters_15 m_Mo_letters_33 m_Mo_letters_34
  rw [r_isSlot, cal_same, slB_nat hs]
  rw [if_pos (by show ¬ b01 true = 0; decide), if_neg (by show ¬ b01 true = 0; decide), if_neg (by rw [i_lt, i_of (by omega), i_0]; omega), if_pos (by rw [i_le, i_of (by omega), i_16]; omega)]
  rw [r_fail0, cal_sI, if_pos (by show (0 : Int32) = 0; decide)]
  have hgo : ∀ x : Nat, ltT l = [x] → RA (kS S s (ltT l)) W M (m_Mo_letters_70 (Int32.ofNat s) 0 (Int32.ofNat x) (sI M 97 0 0)) (kAns (ltT l)) 0 := by
    intro x hx
    unfold m_Mo_letters_70
    rw [show (0 : Int32) = Int32.ofNat 0 from rfl, st_of (by show 0 < gL M 101; omega) (by omega)]
    simp only [Option.bind_some]
    have hok := ok_ltT hl
    rw [hx] at hok ⊢
    have hfr : Fr [101] [(97, 0)] M (sA (sI M 97 0 0) 101 0 (Int32.ofNat x)) := (Fr.stI (by decide)).tr (Fr.stA (by decide))
    exact RA.keep (t := [x]) (hfr.toR (by decide) (by decide)) (by show gI (sI M 97 0 0) 97 0 = 0; rw [gI_sI, if_pos ⟨rfl, rfl⟩]) (hI.fr hfr (by decide) (by decide) (by decide) (by decide)) hs hok.1 hok.2.1 (fun _ => At_one (by show 1 ≤ gL M 101; omega)) (by simp)
  by_cases h0 : l = 0
  · rw [if_neg (by rw [h0]; decide)]
    exact hgo 0 (by unfold ltT; rw [if_pos h0])
  · rw [if_pos (by rw [i_eq, i_of (by omega), i_0]; omega)]
    by_cases h16 : l = 16
    · rw [if_neg (by rw [h16]; decide)]
      exact hgo 1 (by unfold ltT; rw [if_neg h0, if_pos h16])
    · rw [if_pos (by rw [i_eq, i_of (by omega), i_16]; omega), i_shl3, show (2 : Int32) = Int32.ofNat 2 from rfl, i_or_of, or_8 (by omega)]
      exact hgo (2 + 8 * l) (by unfold ltT; rw [if_neg h0, if_neg h16])
