/-! STEP 2, the class: what the desk holds between calls -/
/-- a machine's rows tell its states -/
def XC (M : MS) (o : Nat) (q : List (List Nat)) : Prop := ∀ i, i < q.length → gA M (o + 2) i = b01 (NS (q.getD i [])) ∧ ∀ c, c < 4 → gA M (o + 1) (4 * i + c) = Int32.ofNat (ix (DS c (q.getD i [])) q)
/-- a machine isn't known, or is right -/
def MK (M : MS) (o : Nat) (t : List Nat) : Prop := gI M o 2 = 0 ∨ (gI M o 2 = -1 ∧ Big t) ∨ ∃ q, Mch t q ∧ gI M o 2 = Int32.ofNat q.length ∧ XC M o q
def CLn (g : Nat → Nat) : Prop := g 25 = 16 ∧ (∀ j, j < 16 → g (28 + 3 * j) = 600 ∧ g (29 + 3 * j) = 150) ∧ (g 76 = 100 ∧ g 77 = 1700) ∧ (g 81 = 150 ∧ g 82 = 150 ∧ g 83 = 150 ∧ g 84 = 150 ∧ g 85 = 150) ∧ (g 87 = 300 ∧ g 88 = 300 ∧ g 89 = 300 ∧ g 90 = 300 ∧ g 91 = 300 ∧ g 92 = 300) ∧ (g 94 = 2550 ∧ g 95 = 150 ∧ g 96 = 150)
/-- the word that equal left -/
def WC (M : MS) (W : Option (List Nat)) : Prop := match W with
  | none => gI M 86 7 = -1
  | some w => gI M 86 7 = Int32.ofNat w.length ∧ At M 92 0 w ∧ ∀ x ∈ w, x < 4
def GX (M : MS) : Prop := (gD M 93 1 = 95 ∧ gD M 93 2 = 96) ∨ (gD M 93 1 = 96 ∧ gD M 93 2 = 95)
def RQ (M : MS) : Prop := (∃ l, RW M 78 79 l) ∧ gL M 79 ≤ 30000
def Rest (S : Nat → List Nat) (W : Option (List Nat)) (M : MS) : Prop := RQ M ∧ CLn (gL M) ∧ GX M ∧ (∀ j, j < 16 → MK M (27 + 3 * j) (S j)) ∧ WC M W
theorem XC.keep {M M1 : MS} {o : Nat} {q : List (List Nat)} (h : XC M o q) (h1 : gA M1 (o + 1) = gA M (o + 1)) (h2 : gA M1 (o + 2) = gA M (o + 2)) : XC M1 o q := fun i hi => by
  rw [h1, h2]
  exact h i hi
theorem MK.keep {M M1 : MS} {o : Nat} {t : List Nat} (h : MK M o t) (h0 : gI M1 o 2 = gI M o 2) (h1 : gA M1 (o + 1) = gA M (o + 1)) (h2 : gA M1 (o + 2) = gA M (o + 2)) : MK M1 o t := by
  unfold MK
  rw [h0]
  rcases h with q | q | ⟨q, a, b, c⟩
  · exact Or.inl q
  · exact Or.inr (Or.inl q)
  · exact Or.inr (Or.inr ⟨q, a, b, c.keep h1 h2⟩)
theorem WC.keep {M M1 : MS} {W : Option (List Nat)} (h : WC M W) (h0 : gI M1 86 7 = gI M 86 7) (h1 : gA M1 92 = gA M 92) (h2 : gL M1 92 = gL M 92) : WC M1 W := by
  unfold WC at *
  cases W with
  | none => show gI M1 86 7 = -1; rw [h0]; exact h
  | some w =>
    obtain ⟨q1, ⟨q2, q3⟩, q4⟩ := h
    exact ⟨by rw [h0]; exact q1, ⟨by rw [h2]; exact q2, fun k hk => by rw [h1]; exact q3 k hk⟩, q4⟩
theorem CLn.keep {g g' : Nat → Nat} (h : CLn g) (e : ∀ a, 25 ≤ a → a ≤ 96 → a ≠ 26 → a ≠ 79 → g' a = g a) : CLn g' := by
  obtain ⟨h1, h2, ⟨h3, h4⟩, ⟨a1, a2, a3, a4, a5⟩, ⟨b1, b2, b3, b4, b5, b6⟩, c1, c2, c3⟩ := h
  refine ⟨by rw [e 25 (by omega) (by omega) (by omega) (by omega)]; exact h1, fun j hj => ?_, ⟨by rw [e 76 (by omega) (by omega) (by omega) (by omega)]; exact h3, by rw [e 77 (by omega) (by omega) (by omega) (by omega)]; exact h4⟩, ⟨by rw [e 81 (by omega) (by omega) (by omega) (by omega)]; exact a1, by rw [e 82 (by omega) (by omega) (by omega) (by omega)]; exact a2, by rw [e 83 (by omega) (by omega) (by omega) (by omega)]; exact a3, by rw [e 84 (by omega) (by omega) (by omega) (by omega)]; exact a4, by rw [e 85 (by omega) (by omega) (by omega) (by omega)]; exact a5⟩, ⟨by rw [e 87 (by omega) (by omega) (by omega) (by omega)]; exact b1, by rw [e 88 (by omega) (by omega) (by omega) (by omega)]; exact b2, by rw [e 89 (by omega) (by omega) (by omega) (by omega)]; exact b3, by rw [e 90 (by omega) (by omega) (by omega) (by omega)]; exact b4, by rw [e 91 (by omega) (by omega) (by omega) (by omega)]; exact b5, by rw [e 92 (by omega) (by omega) (by omega) (by omega)]; exact b6⟩, by rw [e 94 (by omega) (by omega) (by omega) (by omega)]; exact c1, by rw [e 95 (by omega) (by omega) (by omega) (by omega)]; exact c2, by rw [e 96 (by omega) (by omega) (by omega) (by omega)]; exact c3⟩
  obtain ⟨q1, q2⟩ := h2 j hj
  exact ⟨by rw [e _ (by omega) (by omega) (by omega) (by omega)]; exact q1, by rw [e _ (by omega) (by omega) (by omega) (by omega)]; exact q2⟩
theorem Rest.fc {S : Nat → List Nat} {W : Option (List Nat)} {M M1 : MS} {R : List Nat} {F : List (Nat × Nat)} (h : Rest S W M) (hf : FC R F M M1) (hR : ∀ a ∈ R, a ≤ 24 ∨ a = 26) (hF : ∀ p ∈ F, p.1 < 27) : Rest S W M1 := by
  obtain ⟨⟨⟨l, h1⟩, h1'⟩, h2, h3, h4, h5⟩ := h
  have nr : ∀ a, 27 ≤ a → a ∉ R := fun a ha q => by have := hR a q; omega
  have nf : ∀ o k, 27 ≤ o → (o, k) ∉ F := fun o k ho q => by have := hF _ q; omega
  refine ⟨⟨⟨l, h1.fc hf (nr 79 (by omega)) (nf 78 1 (by omega))⟩, by rw [hf.gl (nr 79 (by omega))]; exact h1'⟩, h2.keep (fun a a1 a2 a3 a4 => hf.gl (fun q => by have := hR a q; omega)), ?_, fun j hj => ?_, ?_⟩
  · unfold GX
    rw [hf.gd]
    exact h3
  · exact (h4 j hj).keep (hf.gi (nf _ _ (by omega))) (hf.ga (nr _ (by omega))) (hf.ga (nr _ (by omega)))
  · exact h5.keep (hf.gi (nf _ _ (by omega))) (hf.ga (nr _ (by omega))) (hf.gl (nr _ (by omega)))
def CIg (S : Nat → List Nat) (W : Option (List Nat)) (M : MS) (g : TG) (sl : Nat → Nat) : Prop := TI g M ∧ TRw g M sl (fun _ => 0) 0 ∧ TLm M ∧ (∀ s, s < 16 → ttx g (sl s) = S s) ∧ (RO M ∧ RP M) ∧ Rest S W M
/-- the desk holds these terms in its slots, and this word -/
def CI (S : Nat → List Nat) (W : Option (List Nat)) (M : MS) : Prop := ∃ g sl, CIg S W M g sl
/-- a call of the class leaves the reference alone -/
def FrC (M M1 : MS) : Prop := (∀ a, 97 ≤ a → gA M1 a = gA M a ∧ gJ M1 a = gJ M a ∧ gL M1 a = gL M a) ∧ (∀ o k, 97 ≤ o → gI M1 o k = gI M o k) ∧ cLe M M1 ∧ PG M M1
theorem FrC.rf {M : MS} : FrC M M := ⟨fun _ _ => ⟨rfl, rfl, rfl⟩, fun _ _ _ => rfl, cLe.rf, PG.rf⟩
theorem FrC.tr {M M1 M2 : MS} (h : FrC M M1) (h2 : FrC M1 M2) : FrC M M2 :=
  ⟨fun a ha => ⟨(h2.1 a ha).1.trans (h.1 a ha).1, (h2.1 a ha).2.1.trans (h.1 a ha).2.1, (h2.1 a ha).2.2.trans (h.1 a ha).2.2⟩, fun o k hk => (h2.2.1 o k hk).trans (h.2.1 o k hk), h.2.2.1.tr h2.2.2.1, h.2.2.2.tr h2.2.2.2⟩
theorem FC.toC {R : List Nat} {F : List (Nat × Nat)} {M M1 : MS} (h : FC R F M M1) (hR : ∀ a ∈ R, a < 97) (hF : ∀ p ∈ F, p.1 < 97) : FrC M M1 :=
  ⟨fun a ha => h.1 a (fun q => by have := hR a q; omega), fun o k hk => h.2.1 o k (fun q => by have := hF _ q; omega), h.2.2.2.1, h.2.2.2.2⟩
theorem GX.gd {M : MS} (h : GX M) : GD M := by
  unfold GD
  rw [show xWC = 93 from rfl]
  rcases h with ⟨a, b⟩ | ⟨a, b⟩ <;> rw [a, b] <;> decide
def CA (S : Nat → List Nat) (W : Option (List Nat)) (M : MS) {β : Type} (x : Option (MS × β)) (v : β) : Prop := ∃ M1, x = some (M1, v) ∧ CI S W M1 ∧ FrC M M1
def CX (S : Nat → List Nat) (W : Option (List Nat)) (M : MS) {β : Type} (x : Option (MS × β)) (P : β → Prop) : Prop := ∃ v, CA S W M x v ∧ P v
theorem RO.fr {M M1 : MS} (h : RO M) (hf : Fr RTd FTd M M1) : RO M1 := by
  obtain ⟨⟨l1, r1⟩, ⟨l2, r2⟩, ⟨l3, r3⟩, r4, r5, r6, r7⟩ := h
  have hc := FC.of hf
  refine ⟨⟨l1, r1.fc hc (by decide) (by decide)⟩, ⟨l2, r2.fc hc (by decide) (by decide)⟩, ⟨l3, r3.fc hc (by decide) (by decide)⟩, ?_⟩
  rw [hf.ln]
  exact ⟨r4, r5, r6, r7⟩
theorem RP.fc {M M1 : MS} {R : List Nat} {F : List (Nat × Nat)} (h : RP M) (hf : FC R F M M1) (h1 : 20 ∉ R) (h2 : (19, 1) ∉ F) : RP M1 := by
  obtain ⟨⟨l, r⟩, r2⟩ := h
  exact ⟨⟨l, r.fc hf h1 h2⟩, by rw [hf.gl h1]; exact r2⟩
/-- behind a tidy -/
theorem CIg.tidy {S : Nat → List Nat} {W : Option (List Nat)} {M : MS} {g : TG} {sl : Nat → Nat} (h : CIg S W M g sl) : ∃ M1 g1 sl1, m_Explorer_tidy M = some (M1, ()) ∧ CIg S W M1 g1 sl1 ∧ tU g1 ≤ 93236 ∧ tKU g1 ≤ 93236 ∧ FrC M M1 := by
  obtain ⟨h1, h2, h3, h4, ⟨h5, h6⟩, h7⟩ := h
  obtain ⟨M1, g1, ρ, t1, t2, t3, t4, t5, t6, t7, -, t9⟩ := c_tidy h1 h2 h3
  refine ⟨M1, g1, fun s => ρ (sl s), ?_, ⟨t2, ⟨t3.1, t3.2.1, Nat.zero_le _, t3.2.2.2.1, fun j hj => absurd hj (by omega)⟩, t4, fun s hs => (t7 s hs).trans (h4 s hs), ⟨h5.fr t9, h6.fc (FC.of t9) (by decide) (by decide)⟩, h7.fc (FC.of t9) (by decide) (by decide)⟩, t5, t6, (FC.of t9).toC (by decide) (by decide)⟩
  unfold m_Explorer_tidy
  rw [show (0 : Int32) = Int32.ofNat 0 from rfl, cal_some t1 t9.le.1 t9.le.2]
theorem TRw.te {g g1 : TG} {M M1 : MS} {sl fd : Nat → Nat} {n : Nat} {R : List Nat} {F : List (Nat × Nat)} (h : TRw g M sl fd n) (hE : TE g g1) (hf : FC R F M M1) (h1 : 1 ∉ R) (h2 : 26 ∉ R) : TRw g1 M1 sl fd n := by
  obtain ⟨a1, a2, a3, a4, a5⟩ := h
  refine ⟨by rw [hf.gl h1]; exact a1, by rw [hf.gl h2]; exact a2, a3, fun s hs => ?_, fun j hj => ?_⟩
  · obtain ⟨q1, q2, q3⟩ := a4 s hs
    exact ⟨by rw [hf.ga h1]; exact q1, Nat.lt_of_lt_of_le q2 hE.1, by rw [hE.tx q2]; exact q3⟩
  · obtain ⟨q1, q2, q3⟩ := a5 j hj
    exact ⟨by rw [hf.ga h2]; exact q1, Nat.lt_of_lt_of_le q2 hE.1, by rw [hE.tx q2]; exact q3⟩
theorem TLm.fc {M M1 : MS} {R : List Nat} {F : List (Nat × Nat)} (h : TLm M) (hf : FC R F M M1) (h1 : (2, 18) ∉ F) (h2 : (2, 19) ∉ F) : TLm M1 := by
  obtain ⟨u, k, a1, a2, a3⟩ := h
  exact ⟨u, k, by rw [hf.gi h1]; exact a1, by rw [hf.gi h2]; exact a2, a3⟩
/-- behind a term's making -/
theorem CIg.nr {S : Nat → List Nat} {W : Option (List Nat)} {M : MS} {g : TG} {sl : Nat → Nat} {t : List Nat} {n k : Nat} {x : Option (MS × Int32)} (h : CIg S W M g sl) (hN : NR g M t n k x) : ∃ M1 g1 i, x = some (M1, Int32.ofNat i) ∧ CIg S W M1 g1 sl ∧ i < tU g1 ∧ ttx g1 i = t ∧ FrC M M1 := by
  obtain ⟨h1, h2, h3, h4, ⟨h5, h6⟩, h7⟩ := h
  obtain ⟨M1, g1, i, t1, t2, t3, t4, t5, -, -, t8, t9, -⟩ := hN
  exact ⟨M1, g1, i, t1, ⟨t2, h2.te t3 t8 (by decide) (by decide), h3.fc t8 (by decide) (by decide), fun s hs => (t3.tx (h2.2.2.2.1 s hs).2.1).trans (h4 s hs), ⟨t9, h6.fc t8 (by decide) (by decide)⟩, h7.fc t8 (by decide) (by decide)⟩, t4, t5, t8.toC (by decide) (by decide)⟩
theorem CIg.dv {S : Nat → List Nat} {W : Option (List Nat)} {M : MS} {g : TG} {sl : Nat → Nat} {x c : Nat} (h : CIg S W M g sl) (hU : tU g ≤ 93236) (hK : tKU g ≤ 93236) (hx : x < tU g) (hc : c < 4) (hl : (ttx g x).length ≤ 300) : ∃ M1 g1 i, m_Terms_derivative (Int32.ofNat x) (Int32.ofNat c) M = some (M1, Int32.ofNat i) ∧ CIg S W M1 g1 sl ∧ i < tU g1 ∧ ttx g1 i = DS c (ttx g x) ∧ FrC M M1 := by
  obtain ⟨h1, h2, h3, h4, ⟨h5, h6⟩, h7⟩ := h
  obtain ⟨b1, b2⟩ := ct_300 h1.1 hx hl
  obtain ⟨M1, g1, d, t1, t2, t3, t4, t5, t6, t7, -, -, t8⟩ := c_derivative h1 h5 h7.2.2.1.gd h6 hx hc hl (by omega) (by omega)
  exact ⟨M1, g1, d, t1, ⟨t2, h2.te t3 t8 (by decide) (by decide), h3.fc t8 (by decide) (by decide), fun s hs => (t3.tx (h2.2.2.2.1 s hs).2.1).trans (h4 s hs), ⟨t4, t5⟩, h7.fc t8 (by decide) (by decide)⟩, t6, t7, t8.toC (by decide) (by decide)⟩
theorem c_checkSlot {s : Nat} (hs : s < 16) (M : MS) : m_D_checkSlot (Int32.ofNat s) M = some (M, ()) := by
  unfold m_D_checkSlot
  rw [if_neg (by rw [i_lt, i_of (by omega), i_0]; omega), if_pos (by rw [show (16 : Int32) = Int32.ofNat 16 from rfl, i_lt_of (by omega) (by omega)]; exact hs)]
theorem c_checkRange {v h : Nat} (hv : v ≤ h) (hh : h < 1000) (M : MS) : m_D_checkRange (Int32.ofNat v) (Int32.ofNat h) M = some (M, ()) := by
  unfold m_D_checkRange
  rw [if_neg (by rw [i_lt, i_of (by omega), i_0]; omega), if_pos (by rw [i_le_of (by omega) (by omega)]; exact hv)]
theorem TI.sz {g : TG} {M : MS} {i : Nat} (h : TI g M) (hi : i < tU g) : m_Terms_sizeOf (Int32.ofNat i) M = some (M, Int32.ofNat (ttx g i).length) := by
  have hlt := h.2.1.lt
  obtain ⟨-, ⟨m3, m4⟩, ⟨l4, -⟩, -, mi⟩ := h.2.1
  unfold m_Terms_sizeOf
  rw [ld_of (by omega) (by omega), (mi i hi).2.1, Option.bind_some]
theorem x_mch {s : Nat} (hs : s < 16) : x_sm s = 27 + 3 * s ∧ x_kd (27 + 3 * s) = 4 ∧ x_sr (27 + 3 * s) 0 = 28 + 3 * s ∧ x_sr (27 + 3 * s) 1 = 29 + 3 * s := by
  have : ∀ s : Fin 16, x_sm s.val = 27 + 3 * s.val ∧ x_kd (27 + 3 * s.val) = 4 ∧ x_sr (27 + 3 * s.val) 0 = 28 + 3 * s.val ∧ x_sr (27 + 3 * s.val) 1 = 29 + 3 * s.val := by decide
  exact this ⟨s, hs⟩
theorem ldQ_of {M : MS} {s : Nat} (hs : s < 16) (h25 : gL M 25 = 16) : ldQ M 25 (Int32.ofNat s) = some (27 + 3 * s) := by
  unfold ldQ
  have e : (Int32.ofNat s).toNatClampNeg = s := by rw [i_cl, i_of (by omega)]; omega
  rw [e, if_neg (by rw [i_lt, i_of (by omega), i_0]; omega), (x_mch hs).1]
/-- put -/
theorem c_put {S : Nat → List Nat} {W : Option (List Nat)} {M : MS} {g : TG} {sl : Nat → Nat} {s i : Nat} (h : CIg S W M g sl) (hs : s < 16) (hi : i < tU g) : CA (kS S s (ttx g i)) W M (m_D_put (Int32.ofNat s) (Int32.ofNat i) M) (kAns (ttx g i)) := by
  obtain ⟨h1, ⟨r1, r2, r3, r4, r5⟩, h3, h4, ⟨h5, h6⟩, h7⟩ := id h
  have hlt := h1.2.1.lt
  have hsz := h1.1.sz hi
  obtain ⟨s1, s2, s3⟩ := r4 s hs
  unfold m_D_put kAns
  rw [h1.sz hi, cal_same]
  by_cases hl : (ttx g i).length ≤ 100
  · rw [if_pos (by show Int32.ofNat _ ≤ _; rw [show (100 : Int32) = Int32.ofNat 100 from rfl, i_le_of (by omega) (by omega)]; exact hl), if_pos hl]
    show CA _ W M ((ldA M 1 (Int32.ofNat s)).bind _) _
    rw [ld_of (by omega) (by omega), s1, Option.bind_some]
    by_cases he : sl s = i
    · rw [if_pos (by rw [he])]
      have e : kS S s (ttx g i) = S := by
        funext k
        unfold kS
        by_cases hk : k = s ∧ (ttx g i).length ≤ 100
        · rw [if_pos hk, hk.1, ← h4 s hs, he]
        · rw [if_neg hk]
      rw [e]
      exact ⟨M, rfl, ⟨g, sl, h⟩, FrC.rf⟩
    · rw [if_neg (by rw [i_eq_of (by omega) (by omega)]; exact he), st_of (by show _ < gL M 1; omega) (by omega), Option.bind_some]
      have hx := x_mch hs
      have ef : m_Explorer_forget (Int32.ofNat s) (sA M 1 s (Int32.ofNat i)) = some (sI (sA M 1 s (Int32.ofNat i)) (27 + 3 * s) 2 0, ()) := by
        unfold m_Explorer_forget m_Machine_setCount
        rw [ldQ_of hs (by show gL M 25 = 16; exact h7.2.1.1), Option.bind_some, if_pos hx.2.1, if_pos hx.2.1, Option.bind_some, cal_sI]
      rw [ef, cal_sI]
      have hf : FC [1] [(27 + 3 * s, 2)] M (sI (sA M 1 s (Int32.ofNat i)) (27 + 3 * s) 2 0) := FC.of ((Fr.stA (by simp)).tr (Fr.stI (by simp)))
      have nF : ∀ o k, o < 27 ∨ 74 < o → (o, k) ∉ [(27 + 3 * s, 2)] := fun o k ho q => by
        have := List.mem_singleton.mp q
        simp only [Prod.mk.injEq] at this
        omega
      have nR : ∀ a, a ≠ 1 → a ∉ [1] := fun a ha q => ha (List.mem_singleton.mp q)
      have hgl : gL (sI (sA M 1 s (Int32.ofNat i)) (27 + 3 * s) 2 0) = gL M := rfl
      refine ⟨_, rfl, ⟨g, updN sl s i, ?_, ⟨r1, r2, Nat.zero_le _, fun s' hs' => ?_, fun j hj => absurd hj (by omega)⟩, ?_, fun s' hs' => ?_, ⟨?_, ?_⟩, ?_⟩, hf.toC (by simp) (by intro p hp; rw [List.mem_singleton.mp hp]; show 27 + 3 * s < 97; omega)⟩
      · exact h1.fc hf (fun a a1 a2 => Or.inl (nR a (by omega))) ⟨rfl, rfl⟩ (nF _ _ (by omega)) (nF _ _ (by omega))
      · rw [gA_sI, gA_sA]
        by_cases hq : s' = s
        · rw [if_pos ⟨rfl, hq⟩, hq, updN_eq]
          exact ⟨rfl, hi, hl⟩
        · rw [if_neg (fun q => hq q.2), updN_ne _ _ hq]
          exact r4 s' hs'
      · exact h3.fc hf (nF _ _ (by omega)) (nF _ _ (by omega))
      · unfold kS
        by_cases hq : s' = s
        · rw [hq, updN_eq, if_pos ⟨rfl, hl⟩]
        · rw [updN_ne _ _ hq, if_neg (fun q => hq q.1)]
          exact h4 s' hs'
      · obtain ⟨⟨l1, q1⟩, ⟨l2, q2⟩, ⟨l3, q3⟩, q4⟩ := h5
        exact ⟨⟨l1, q1.fc hf (nR _ (by omega)) (nF _ _ (by omega))⟩, ⟨l2, q2.fc hf (nR _ (by omega)) (nF _ _ (by omega))⟩, ⟨l3, q3.fc hf (nR _ (by omega)) (nF _ _ (by omega))⟩, q4⟩
      · exact h6.fc hf (nR _ (by omega)) (nF _ _ (by omega))
      · obtain ⟨⟨⟨l, q1⟩, q1'⟩, q2, q3, q4, q5⟩ := h7
        refine ⟨⟨⟨l, q1.fc hf (nR _ (by omega)) (nF _ _ (by omega))⟩, q1'⟩, q2, q3, fun j hj => ?_, q5.keep (hf.gi (nF _ _ (by omega))) (hf.ga (nR _ (by omega))) rfl⟩
        by_cases hq : j = s
        · left
          rw [gI_sI, if_pos ⟨by rw [hq], rfl⟩]
        · have e : kS S s (ttx g i) j = S j := if_neg (fun q => hq q.1)
          rw [e]
          refine (q4 j hj).keep (hf.gi (fun q => ?_)) (hf.ga (nR _ (by omega))) (hf.ga (nR _ (by omega)))
          have := List.mem_singleton.mp q
          simp only [Prod.mk.injEq] at this
          omega
  · rw [if_neg (by show ¬ Int32.ofNat _ ≤ _; rw [show (100 : Int32) = Int32.ofNat 100 from rfl, i_le_of (by omega) (by omega)]; exact hl), if_neg hl]
    have e : kS S s (ttx g i) = S := by
      funext k
      exact if_neg (fun q => hl q.2)
    rw [e]
    exact ⟨M, rfl, ⟨g, sl, h⟩, FrC.rf⟩
theorem CA.some {S : Nat → List Nat} {W : Option (List Nat)} {M : MS} {β γ : Type} {x : Option (MS × β)} {v : β} (h : CA S W M x v) {k : MS × β → Option (MS × γ)} {S' : Nat → List Nat} {W' : Option (List Nat)} {w : γ} (hk : ∀ M1, CI S W M1 → FrC M M1 → CA S' W' M (k (M1, v)) w) : CA S' W' M (cal cM M x k) w := by
  obtain ⟨M1, h1, h2, h3⟩ := h
  rw [cal_some h1 h3.2.2.1.1 h3.2.2.1.2]
  exact hk M1 h2 h3
theorem CA.pre {S : Nat → List Nat} {W : Option (List Nat)} {M M0 : MS} {β : Type} {x : Option (MS × β)} {v : β} (h0 : FrC M0 M) (h : CA S W M x v) : CA S W M0 x v := by
  obtain ⟨M1, h1, h2, h3⟩ := h
  exact ⟨M1, h1, h2, h0.tr h3⟩
/-- put's answer handed on -/
theorem c_put2 {S : Nat → List Nat} {W : Option (List Nat)} {M : MS} {g : TG} {sl : Nat → Nat} {s i : Nat} (h : CIg S W M g sl) (hs : s < 16) (hi : i < tU g) : CA (kS S s (ttx g i)) W M (cal cM M (m_D_put (Int32.ofNat s) (Int32.ofNat i) M) fun r => some (r.1, r.2)) (kAns (ttx g i)) := (c_put h hs hi).some (fun M1 h1 h2 => ⟨M1, rfl, h1, h2⟩)
theorem c_letters {S : Nat → List Nat} {W : Option (List Nat)} {M : MS} {s l : Nat} (h : CI S W M) (hs : s < 16) (hl : l ≤ 16) : CA (kS S s (ltT l)) W M (m_D_letters (Int32.ofNat s) (Int32.ofNat l) M) (kAns (ltT l)) := by
  obtain ⟨g, sl, h⟩ := h
  have hU := h.1.1.1
  have e : ttx g l = ltT l := by
    by_cases h16 : l = 16
    · rw [h16]; exact h.1.1.t16
    · exact (h.1.1.2.1 l (by omega)).2.2
  unfold m_D_letters
  rw [c_checkSlot hs, cal_same, show (16 : Int32) = Int32.ofNat 16 from rfl, c_checkRange hl (by omega), cal_same, ← e]
  exact c_put2 h hs (by omega)
theorem CIg.slot {S : Nat → List Nat} {W : Option (List Nat)} {M : MS} {g : TG} {sl : Nat → Nat} (h : CIg S W M g sl) {s : Nat} (hs : s < 16) : ldA M 1 (Int32.ofNat s) = some (Int32.ofNat (sl s)) ∧ sl s < tU g ∧ (ttx g (sl s)).length ≤ 100 ∧ ttx g (sl s) = S s := by
  obtain ⟨q1, q2, q3⟩ := h.2.1.2.2.2.1 s hs
  refine ⟨?_, q2, q3, h.2.2.2.1 s hs⟩
  rw [ld_of (by rw [h.2.1.1]; exact hs) (by omega), q1]
theorem c_derive {S : Nat → List Nat} {W : Option (List Nat)} {M : MS} {s a c : Nat} (h : CI S W M) (hs : s < 16) (ha : a < 16) (hc : c ≤ 3) : CA (kS S s (DS c (S a))) W M (m_D_derive (Int32.ofNat s) (Int32.ofNat a) (Int32.ofNat c) M) (kAns (DS c (S a))) := by
  obtain ⟨g, sl, h⟩ := h
  obtain ⟨M1, g1, sl1, t1, t2, t3, t4, t5⟩ := h.tidy
  obtain ⟨q1, q2, q3, q4⟩ := t2.slot ha
  obtain ⟨M2, g2, i, u1, u2, u3, u4, u5⟩ := t2.dv t3 t4 q2 (c := c) (by omega) (by omega)
  unfold m_D_derive
  rw [c_checkSlot hs, cal_same, c_checkSlot ha, cal_same, show (3 : Int32) = Int32.ofNat 3 from rfl, c_checkRange hc (by omega), cal_same, cal_some t1 t5.2.2.1.1 t5.2.2.1.2, q1, Option.bind_some, cal_some u1 u5.2.2.1.1 u5.2.2.1.2]
  rw [q4] at u4
  rw [← u4]
  exact CA.pre (t5.tr u5) (c_put2 u2 hs u3)
theorem c_turn {S : Nat → List Nat} {W : Option (List Nat)} {M : MS} {s a how : Nat} (h : CI S W M) (hs : s < 16) (ha : a < 16) (hh : how ≤ 1) : CA (kS S s (turnT how (S a))) W M (m_D_turn (Int32.ofNat s) (Int32.ofNat a) (Int32.ofNat how) M) (kAns (turnT how (S a))) := by
  obtain ⟨g, sl, h⟩ := h
  obtain ⟨M1, g1, sl1, t1, t2, t3, t4, t5⟩ := h.tidy
  obtain ⟨q1, q2, q3, q4⟩ := t2.slot ha
  unfold m_D_turn m_D_turn_63
  rw [c_checkSlot hs, cal_same, c_checkSlot ha, cal_same, show (1 : Int32) = Int32.ofNat 1 from rfl, c_checkRange hh (by omega), cal_same, cal_some t1 t5.2.2.1.1 t5.2.2.1.2, q1, Option.bind_some]
  by_cases h0 : how = 0
  · subst h0
    obtain ⟨M2, g2, i, u1, u2, u3, u4, u5⟩ := t2.nr (c_not t2.1 t2.2.2.2.2.1.1 t2.2.2.2.2.2.2.2.1.gd q2 (by omega) (by omega) (by omega))
    rw [if_neg (fun q => q rfl), Option.bind_some, cal_some u1 u5.2.2.1.1 u5.2.2.1.2]
    rw [q4] at u4
    show CA (kS S s (notS (S a))) W M _ (kAns (notS (S a)))
    rw [← u4]
    exact CA.pre (t5.tr u5) (c_put2 u2 hs u3)
  · obtain ⟨M2, g2, i, u1, u2, u3, u4, u5⟩ := t2.nr (c_star t2.1 t2.2.2.2.2.1.1 t2.2.2.2.2.2.2.2.1.gd q2 (by omega) (by omega) (by omega))
    have e1 : how = 1 := by omega
    subst e1
    rw [if_pos (by decide), cal_some u1 u5.2.2.1.1 u5.2.2.1.2]
    rw [q4] at u4
    show CA (kS S s (starS (S a))) W M _ (kAns (starS (S a)))
    rw [← u4]
    exact CA.pre (t5.tr u5) (c_put2 u2 hs u3)
theorem c_join {S : Nat → List Nat} {W : Option (List Nat)} {M : MS} {s a b how : Nat} (h : CI S W M) (hs : s < 16) (ha : a < 16) (hb : b < 16) (hh : how ≤ 2) : CA (kS S s (joinT how (S a) (S b))) W M (m_D_join (Int32.ofNat s) (Int32.ofNat a) (Int32.ofNat b) (Int32.ofNat how) M) (kAns (joinT how (S a) (S b))) := by
  obtain ⟨g, sl, h⟩ := h
  obtain ⟨M1, g1, sl1, t1, t2, t3, t4, t5⟩ := h.tidy
  obtain ⟨q1, q2, q3, q4⟩ := t2.slot ha
  obtain ⟨p1, p2, p3, p4⟩ := t2.slot hb
  have hG := t2.2.2.2.2.2.2.2.1.gd
  have hR := t2.2.2.2.2.1.1
  unfold m_D_join m_D_join_80
  rw [c_checkSlot hs, cal_same, c_checkSlot ha, cal_same, c_checkSlot hb, cal_same, show (2 : Int32) = Int32.ofNat 2 from rfl, c_checkRange hh (by omega), cal_same, cal_some t1 t5.2.2.1.1 t5.2.2.1.2, q1, p1, Option.bind_some, Option.bind_some, Option.bind_some, Option.bind_some]
  by_cases h0 : how = 0
  · subst h0
    have hsp : spn g1 (sl1 a) ≤ (ttx g1 (sl1 a)).length := (spI_ok t2.1.1 (sl1 a) (sl1 a) q2 (Nat.le_refl _)).2.1
    obtain ⟨M2, g2, i, u1, u2, u3, u4, u5⟩ := t2.nr (c_cat t2.1 hR hG q2 p2 (by omega) (by omega) (by omega) (by omega))
    rw [if_neg (fun q => q rfl), Option.bind_some, Option.bind_some, cal_some u1 u5.2.2.1.1 u5.2.2.1.2]
    rw [q4, p4] at u4
    show CA (kS S s (catS (S a) (S b))) W M _ (kAns (catS (S a) (S b)))
    rw [← u4]
    exact CA.pre (t5.tr u5) (c_put2 u2 hs u3)
  · by_cases h1 : how = 1
    · subst h1
      obtain ⟨M2, g2, i, u1, u2, u3, u4, u5⟩ := t2.nr (c_both (s := 4) t2.1 hR hG (Or.inl rfl) q2 p2 (by omega) (by omega) (by omega))
      rw [if_pos (by decide), if_neg (fun q => q rfl)]
      rw [q4, p4] at u4
      show CA (kS S s (uni 4 (pt 4 (S a) ++ pt 4 (S b)))) W M (cal cM M1 (m_Terms_both (Int32.ofNat 4) (Int32.ofNat (sl1 a)) (Int32.ofNat (sl1 b)) M1) _) (kAns (uni 4 (pt 4 (S a) ++ pt 4 (S b))))
      rw [cal_some u1 u5.2.2.1.1 u5.2.2.1.2, ← u4]
      exact CA.pre (t5.tr u5) (c_put2 u2 hs u3)
    · have e2 : how = 2 := by omega
      subst e2
      obtain ⟨M2, g2, i, u1, u2, u3, u4, u5⟩ := t2.nr (c_both (s := 5) t2.1 hR hG (Or.inr rfl) q2 p2 (by omega) (by omega) (by omega))
      rw [if_pos (by decide), if_pos (by decide)]
      rw [q4, p4] at u4
      show CA (kS S s (uni 5 (pt 5 (S a) ++ pt 5 (S b)))) W M (cal cM M1 (m_Terms_both (Int32.ofNat 5) (Int32.ofNat (sl1 a)) (Int32.ofNat (sl1 b)) M1) _) (kAns (uni 5 (pt 5 (S a) ++ pt 5 (S b))))
      rw [cal_some u1 u5.2.2.1.1 u5.2.2.1.2, ← u4]
      exact CA.pre (t5.tr u5) (c_put2 u2 hs u3)
theorem c_similar {S : Nat → List Nat} {W : Option (List Nat)} {M : MS} {a b : Nat} (h : CI S W M) (ha : a < 16) (hb : b < 16) : CA S W M (m_D_similar (Int32.ofNat a) (Int32.ofNat b) M) (b01 (decide (S a = S b))) := by
  obtain ⟨g, sl, h⟩ := h
  obtain ⟨q1, q2, q3, q4⟩ := h.slot ha
  obtain ⟨p1, p2, p3, p4⟩ := h.slot hb
  have hlt := h.1.2.1.lt
  unfold m_D_similar
  rw [c_checkSlot ha, cal_same, c_checkSlot hb, cal_same, q1, p1, Option.bind_some, Option.bind_some]
  by_cases he : sl a = sl b
  · rw [if_neg (fun q => q (by rw [he])), decide_eq_true (by rw [← q4, ← p4, he])]
    exact ⟨M, rfl, ⟨g, sl, h⟩, FrC.rf⟩
  · rw [if_pos (by rw [i_eq_of (by omega) (by omega)]; exact he), decide_eq_false (fun q => he (h.1.1.inj q2 p2 (by rw [q4, p4, q])))]
    exact ⟨M, rfl, ⟨g, sl, h⟩, FrC.rf⟩
theorem TB.kn {g : TG} (h : TB g) {i : Nat} (hi : i < tU g) : ar (hd (ttx g i)) = (tkd g i).length ∧ (tso g i = 2 → i < 16 ∧ hd (ttx g i) / 8 = i) := by
  by_cases h18 : 18 ≤ i
  · obtain ⟨h1, h2, h3⟩ := h.2.2.2.2.1 i h18 hi
    have hl := h1.lt
    refine ⟨?_, fun q => by omega⟩
    rw [h3]
    unfold txF
    by_cases hc : tso g i = 4 ∨ tso g i = 5
    · rw [if_pos hc, List.length_map]
      exact ar_or hc _
    · rw [if_neg hc]
      exact h1.ar hc
  · by_cases h17 : i = 17
    · subst h17
      rw [h.t17, h.2.2.2.1.2.1, h.2.2.2.1.1]
      exact ⟨rfl, fun q => by omega⟩
    · by_cases h16 : i = 16
      · subst h16
        rw [h.t16, h.2.2.1.2.1, h.2.2.1.1]
        exact ⟨rfl, fun q => by omega⟩
      · obtain ⟨a1, a2, a3⟩ := h.2.1 i (by omega)
        rw [a1, a2, a3]
        unfold ltT
        by_cases h0 : i = 0
        · rw [if_pos h0, if_pos h0]
          exact ⟨rfl, fun q => by omega⟩
        · rw [if_neg h0, if_neg h16, if_neg h0]
          refine ⟨ar_cl i, fun _ => ⟨by omega, ?_⟩⟩
          show (2 + 8 * i) / 8 = i
          omega
theorem TI.cnt {g : TG} {M : MS} {i : Nat} (h : TI g M) (hi : i < tU g) : m_Terms_countOf (Int32.ofNat i) M = some (M, Int32.ofNat (tkd g i).length) := by
  have hlt := h.2.1.lt
  obtain ⟨-, ⟨m3, m4⟩, ⟨l4, l5, l6, l7, -⟩, -, mi⟩ := h.2.1
  unfold m_Terms_countOf
  rw [ld_of (by omega) (by omega), (mi i hi).2.2.2.2.1, Option.bind_some]
theorem TI.srt {g : TG} {M : MS} {i : Nat} (h : TI g M) (hi : i < tU g) : m_Terms_sortOf (Int32.ofNat i) M = some (M, Int32.ofNat (tso g i)) := by
  have hlt := h.2.1.lt
  obtain ⟨-, ⟨m3, m4⟩, ⟨l4, l5, l6, l7, -⟩, -, mi⟩ := h.2.1
  unfold m_Terms_sortOf
  rw [ld_of (by omega) (by omega), (mi i hi).1, Option.bind_some]
theorem TI.nul {g : TG} {M : MS} {i : Nat} (h : TI g M) (hi : i < tU g) : m_Terms_isNullable (Int32.ofNat i) M = some (M, b01 (NS (ttx g i))) := by
  have hlt := h.2.1.lt
  obtain ⟨-, ⟨m3, m4⟩, ⟨l4, l5, l6, l7, -⟩, -, mi⟩ := h.2.1
  unfold m_Terms_isNullable
  rw [ld_of (by omega) (by omega), (mi i hi).2.2.1, Option.bind_some]
  cases NS (ttx g i)
  · rw [if_pos (by decide)]; rfl
  · rw [if_neg (by decide)]; rfl
theorem c_dlook {S : Nat → List Nat} {W : Option (List Nat)} {M : MS} {a : Nat} {what : Int32} (h : CI S W M) (ha : a < 16) : CA S W M (m_D_look (Int32.ofNat a) what M) (lookT what (S a)) := by
  obtain ⟨g, sl, h⟩ := h
  obtain ⟨q1, q2, q3, q4⟩ := h.slot ha
  have hlt := h.1.2.1.lt
  have hso := h.1.1.so q2
  obtain ⟨k1, k2⟩ := h.1.1.kn q2
  have fin : ∀ v : Int32, CA S W M (some (M, v)) v := fun v => ⟨M, rfl, ⟨g, sl, h⟩, FrC.rf⟩
  have hso8 : tso g (sl a) < 8 := by rw [← hso]; exact Nat.mod_lt _ (by omega)
  unfold m_D_look lookT
  rw [c_checkSlot ha, cal_same, q1, Option.bind_some, ← q4]
  by_cases w0 : what = 0
  · rw [if_pos w0, if_pos w0, h.1.srt q2, cal_same, hso]
    exact fin _
  · rw [if_neg w0, if_neg w0]
    by_cases w1 : what = 1
    · rw [if_pos w1, if_pos w1, h.1.sz q2, cal_same]
      exact fin _
    · rw [if_neg w1, if_neg w1]
      by_cases w2 : what = 2
      · rw [if_pos w2, if_pos w2, h.1.nul q2, cal_same]
        cases NS (ttx g (sl a))
        · rw [if_pos (by show b01 false = 0; decide)]; exact fin _
        · rw [if_neg (by show ¬ b01 true = 0; decide)]; exact fin _
      · rw [if_neg w2, if_neg w2]
        by_cases w3 : what = 3
        · rw [if_pos w3, if_pos w3, h.1.cnt q2, cal_same, k1]
          exact fin _
        · rw [if_neg w3, if_neg w3]
          by_cases w4 : what = 4
          · rw [if_pos w4, if_pos w4, h.1.srt q2, cal_same, hso]
            by_cases e2 : tso g (sl a) = 2
            · rw [if_neg (fun q => q (by rw [e2]; rfl)), if_pos e2, (k2 e2).2]
              exact fin _
            · rw [if_pos (by show ¬ Int32.ofNat (tso g (sl a)) = 2; rw [show (2 : Int32) = Int32.ofNat 2 from rfl, i_eq_of (by omega) (by omega)]; exact e2), if_neg e2]
              exact fin _
          · rw [if_neg w4, if_neg w4]
            exact fin _
