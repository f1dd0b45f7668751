/-! STEP 2, the class: the states of a slot's term -/
theorem cal_sA {α β : Type} {M : MS} {a j : Nat} {x : Int32} {v : β} {k : MS × β → Option α} : cal cM M (some (sA M a j x, v)) k = k (sA M a j x, v) := cal_some rfl (Nat.le_refl _) (Nat.le_refl _)
/-- the table behind a tag's writing -/
def gtag (g : TG) (i v : Nat) : TG := (tU g, tso g, tkd g, ttx g, tkf g, tKU g, updN (ttg g) i v)
theorem TI.tag {g : TG} {M : MS} {i v : Nat} (h : TI g M) (hv : v ≤ 1000) : TI (gtag g i v) (sA M 10 i (Int32.ofNat v)) := by
  obtain ⟨hB, hM, ⟨h1, h2⟩, hA, hT⟩ := h
  have hf : FC [10] [] M (sA M 10 i (Int32.ofNat v)) := FC.of (Fr.stA (by simp))
  refine ⟨hB, ?_, ⟨fun i h18 hi => ?_, fun b hb => ?_⟩, fun i c hi hc => ?_, fun j hj => ?_⟩
  · obtain ⟨a1, a2, a3, a4, a5⟩ := hM
    refine ⟨a1, a2, a3, a4, fun j hj => ?_⟩
    rw [hf.ga (a := 3) (by decide), hf.ga (a := 4) (by decide), hf.ga (a := 5) (by decide), hf.ga (a := 6) (by decide), hf.ga (a := 7) (by decide), hf.ga (a := 13) (by decide)]
    exact a5 j hj
  · rw [hf.ga (a := 8) (by decide)]
    exact h1 i h18 hi
  · obtain ⟨l, q1, q2, q3, q4⟩ := h2 b hb
    refine ⟨l, ?_, q2, q3, fun i h18 hi hbk => q4 i h18 hi ?_⟩
    · rw [hf.ga (a := 14) (by decide)]; exact cH.fc hf (by decide) q1
    · rw [hf.ga (a := 8) (by decide)] at hbk; exact hbk
  · rw [hf.ga (a := 12) (by decide)]
    exact hA i c hi hc
  · show gA (sA M 10 i (Int32.ofNat v)) 10 j = Int32.ofNat (updN (ttg g) i v j) ∧ updN (ttg g) i v j ≤ 1000
    rw [gA_sA]
    by_cases e : j = i
    · rw [if_pos ⟨rfl, e⟩, e, updN_eq]
      exact ⟨rfl, hv⟩
    · rw [if_neg (fun q => e q.2), updN_ne _ _ e]
      exact hT j hj
theorem CIg.tag {S : Nat → List Nat} {W : Option (List Nat)} {M : MS} {g : TG} {sl : Nat → Nat} {i v : Nat} (h : CIg S W M g sl) (hv : v ≤ 1000) : CIg S W (sA M 10 i (Int32.ofNat v)) (gtag g i v) sl := by
  obtain ⟨h1, ⟨r1, r2, r3, r4, r5⟩, h3, h4, ⟨h5, h6⟩, h7⟩ := h
  have hf : FC [10] [] M (sA M 10 i (Int32.ofNat v)) := FC.of (Fr.stA (by simp))
  refine ⟨h1.tag hv, ⟨r1, r2, r3, fun s hs => ?_, fun j hj => absurd hj (by omega)⟩, h3, h4, ⟨?_, h6.fc hf (by decide) (by decide)⟩, h7.fc hf (by decide) (by decide)⟩
  · rw [hf.ga (by decide)]
    exact r4 s hs
  · obtain ⟨⟨l1, q1⟩, ⟨l2, q2⟩, ⟨l3, q3⟩, q4⟩ := h5
    exact ⟨⟨l1, q1.fc hf (by decide) (by decide)⟩, ⟨l2, q2.fc hf (by decide) (by decide)⟩, ⟨l3, q3.fc hf (by decide) (by decide)⟩, q4⟩
/-- what is written behind the table leaves it -/
theorem CIg.fcx {S : Nat → List Nat} {W W' : Option (List Nat)} {M M1 : MS} {g : TG} {sl : Nat → Nat} {R : List Nat} {F : List (Nat × Nat)} (h : CIg S W M g sl) (hf : FC R F M M1) (hR : ∀ a ∈ R, a = 26 ∨ (27 ≤ a ∧ a ≠ 79)) (hF : ∀ p ∈ F, 27 ≤ p.1 ∧ p.1 ≠ 78) (hL : gL M1 = gL M) (hM : ∀ j, j < 16 → MK M1 (27 + 3 * j) (S j)) (hW : WC M1 W') : CIg S W' M1 g sl := by
  obtain ⟨h1, ⟨r1, r2, r3, r4, r5⟩, h3, h4, ⟨h5, h6⟩, ⟨⟨l, q1⟩, q1'⟩, q2, q3, q4, q5⟩ := h
  have nr : ∀ a, a < 26 ∨ a = 79 → a ∉ R := fun a ha q => by have := hR a q; omega
  have nf : ∀ o k, o < 27 ∨ o = 78 → (o, k) ∉ F := fun o k ho q => by have := hF _ q; omega
  refine ⟨h1.fc hf (fun a a1 a2 => Or.inl (nr a (by omega))) (by rw [hL]; exact ⟨rfl, rfl⟩) (nf _ _ (by omega)) (nf _ _ (by omega)), ⟨by rw [hL]; exact r1, by rw [hL]; exact r2, r3, fun s hs => ?_, fun j hj => absurd hj (by omega)⟩, h3.fc hf (nf _ _ (by omega)) (nf _ _ (by omega)), h4, ⟨?_, h6.fc hf (nr _ (by omega)) (nf _ _ (by omega))⟩, ⟨⟨l, q1.fc hf (nr _ (by omega)) (nf _ _ (by omega))⟩, by rw [hL]; exact q1'⟩, by rw [hL]; exact q2, ?_, hM, hW⟩
  · rw [hf.ga (nr 1 (by omega))]
    exact r4 s hs
  · obtain ⟨⟨l1, q1⟩, ⟨l2, q2⟩, ⟨l3, q3⟩, q4⟩ := h5
    rw [← hL] at q4
    exact ⟨⟨l1, q1.fc hf (nr _ (by omega)) (nf _ _ (by omega))⟩, ⟨l2, q2.fc hf (nr _ (by omega)) (nf _ _ (by omega))⟩, ⟨l3, q3.fc hf (nr _ (by omega)) (nf _ _ (by omega))⟩, q4⟩
  · unfold GX
    rw [hf.gd]
    exact q3
/-- the rows that exploring slot a writes -/
def RXp (a : Nat) : List Nat := [26, 27 + 3 * a + 1, 27 + 3 * a + 2]
theorem RXp_mem {a x : Nat} (h : x ∈ RXp a) : x = 26 ∨ x = 28 + 3 * a ∨ x = 29 + 3 * a := by
  unfold RXp at h
  simp only [List.mem_cons, List.not_mem_nil, or_false] at h
  omega
theorem CIg.own {S : Nat → List Nat} {W : Option (List Nat)} {M M1 : MS} {g : TG} {sl : Nat → Nat} {a : Nat} (h : CIg S W M g sl) (ha : a < 16) (hz : gI M (27 + 3 * a) 2 = 0) (hf : FC (RXp a) [] M M1) (hL : gL M1 = gL M) : CIg S W M1 g sl := by
  refine h.fcx hf (fun x hx => ?_) (by simp) hL (fun j hj => ?_) ?_
  · have := RXp_mem hx
    omega
  · by_cases e : j = a
    · left
      rw [hf.gi (by simp), e]
      exact hz
    · exact (h.2.2.2.2.2.2.2.2.1 j hj).keep (hf.gi (by simp)) (hf.ga (fun q => by have := RXp_mem q; omega)) (hf.ga (fun q => by have := RXp_mem q; omega))
  · exact h.2.2.2.2.2.2.2.2.2.keep (hf.gi (by simp)) (hf.ga (fun q => by have := RXp_mem q; omega)) (by rw [hL])
theorem CIg.fin {S : Nat → List Nat} {W : Option (List Nat)} {M : MS} {g : TG} {sl : Nat → Nat} {a : Nat} {v : Int32} (h : CIg S W M g sl) (ha : a < 16) (hk : MK (sI M (27 + 3 * a) 2 v) (27 + 3 * a) (S a)) : CIg S W (sI M (27 + 3 * a) 2 v) g sl := by
  have hf : FC [] [(27 + 3 * a, 2)] M (sI M (27 + 3 * a) 2 v) := FC.of (Fr.stI (by simp))
  have nF : ∀ o k, o ≠ 27 + 3 * a → (o, k) ∉ [(27 + 3 * a, 2)] := fun o k ho q => by
    have := List.mem_singleton.mp q
    simp only [Prod.mk.injEq] at this
    omega
  refine h.fcx hf (by simp) (fun p hp => ?_) rfl (fun j hj => ?_) ?_
  · rw [List.mem_singleton.mp hp]
    show 27 ≤ 27 + 3 * a ∧ 27 + 3 * a ≠ 78
    omega
  · by_cases e : j = a
    · rw [e]; exact hk
    · exact (h.2.2.2.2.2.2.2.2.1 j hj).keep (hf.gi (nF _ _ (by omega))) rfl rfl
  · exact h.2.2.2.2.2.2.2.2.2.keep (hf.gi (nF _ _ (by omega))) rfl rfl
/-! a machine's methods -/
theorem c_mknown {a : Nat} (ha : a < 16) (M : MS) : m_Machine_isKnown (27 + 3 * a) M = some (M, if gI M (27 + 3 * a) 2 = 0 then 0 else 1) := by
  unfold m_Machine_isKnown
  rw [if_pos (x_mch ha).2.1]
  split <;> rfl
theorem c_mlarge {a : Nat} (ha : a < 16) (M : MS) : m_Machine_isTooLarge (27 + 3 * a) M = some (M, if gI M (27 + 3 * a) 2 = -1 then 1 else 0) := by
  unfold m_Machine_isTooLarge
  rw [if_pos (x_mch ha).2.1]
  by_cases h : gI M (27 + 3 * a) 2 = -1
  · rw [if_neg (fun q => q h), if_pos h]
  · rw [if_pos h, if_neg h]
theorem c_mcount {a : Nat} (ha : a < 16) (M : MS) : m_Machine_count (27 + 3 * a) M = some (M, gI M (27 + 3 * a) 2) := by
  unfold m_Machine_count
  rw [if_pos (x_mch ha).2.1]
theorem c_msetCount {a : Nat} (ha : a < 16) (v : Int32) (M : MS) : m_Machine_setCount (27 + 3 * a) v M = some (sI M (27 + 3 * a) 2 v, ()) := by
  unfold m_Machine_setCount
  rw [if_pos (x_mch ha).2.1, Option.bind_some]
theorem i_4c (i c : Nat) : Int32.ofNat i * 4 + Int32.ofNat c = Int32.ofNat (4 * i + c) := by
  rw [show (4 : Int32) = Int32.ofNat 4 from rfl, i_mul_of, i_add_of, Nat.mul_comm]
theorem c_mnext {a i c : Nat} (ha : a < 16) {M : MS} (hl : gL M (28 + 3 * a) = 600) (hi : i < 150) (hc : c < 4) : m_Machine_next (27 + 3 * a) (Int32.ofNat i) (Int32.ofNat c) M = some (M, gA M (27 + 3 * a + 1) (4 * i + c)) := by
  unfold m_Machine_next
  rw [if_pos (x_mch ha).2.1, (x_mch ha).2.2.1, i_4c, ld_of (by omega) (by omega), Option.bind_some, show 28 + 3 * a = 27 + 3 * a + 1 by omega]
theorem c_msetNext {a i c : Nat} (ha : a < 16) {M : MS} {v : Int32} (hl : gL M (28 + 3 * a) = 600) (hi : i < 150) (hc : c < 4) : m_Machine_setNext (27 + 3 * a) (Int32.ofNat i) (Int32.ofNat c) v M = some (sA M (27 + 3 * a + 1) (4 * i + c) v, ()) := by
  unfold m_Machine_setNext
  rw [if_pos (x_mch ha).2.1, (x_mch ha).2.2.1, i_4c, st_of (by omega) (by omega), Option.bind_some, show 28 + 3 * a = 27 + 3 * a + 1 by omega]
theorem c_macc {a i : Nat} (ha : a < 16) {M : MS} (hl : gL M (29 + 3 * a) = 150) (hi : i < 150) : m_Machine_isAccepting (27 + 3 * a) (Int32.ofNat i) M = some (M, nb (gA M (27 + 3 * a + 2) i)) := by
  unfold m_Machine_isAccepting
  rw [if_pos (x_mch ha).2.1, (x_mch ha).2.2.2, ld_of (by omega) (by omega), Option.bind_some, show 29 + 3 * a = 27 + 3 * a + 2 by omega]
theorem c_msetAcc {a i : Nat} (ha : a < 16) {M : MS} {b : Bool} (hl : gL M (29 + 3 * a) = 150) (hi : i < 150) : m_Machine_setAccepting (27 + 3 * a) (Int32.ofNat i) (b01 b) M = some (sA M (27 + 3 * a + 2) i (b01 b), ()) := by
  unfold m_Machine_setAccepting
  rw [if_pos (x_mch ha).2.1, (x_mch ha).2.2.2, st_ofZ (by omega) (by omega), nb_b01, Option.bind_some, show 29 + 3 * a = 27 + 3 * a + 2 by omega]
/-- the states found stand in their row -/
def FDq (g : TG) (M : MS) (fd : Nat → Nat) (q : List (List Nat)) : Prop := ∀ j, j < q.length → gA M 26 j = Int32.ofNat (fd j) ∧ fd j < tU g ∧ ttx g (fd j) = q.getD j [] ∧ ttg g (fd j) = j
theorem ix_getD {q : List (List Nat)} (hn : q.Nodup) {j : Nat} (hj : j < q.length) : ix (q.getD j []) q = j := by
  obtain ⟨x1, x2⟩ := ix_mem (getD_mem hj)
  have h1 := getD_some x1
  have h2 := getD_some hj
  rw [x2] at h1
  exact (List.getElem?_inj x1 hn).mp (h1.trans h2.symm)
theorem c_placeOf {g : TG} {M : MS} {fd : Nat → Nat} {q : List (List Nat)} {d : Nat} (h : TI g M) (hF : FDq g M fd q) (hn : q.Nodup) (hl : q.length ≤ 150) (h26 : gL M 26 = 150) (hd : d < tU g) : m_Explorer_placeOf (Int32.ofNat d) (Int32.ofNat q.length) M = some (M, Int32.ofNat (ix (ttx g d) q)) := by
  have hlt := h.2.1.lt
  obtain ⟨-, ⟨m3, m4⟩, ⟨l4, l5, l6, l7, l8, l9, l10, -⟩, -, -⟩ := h.2.1
  obtain ⟨t1, t2⟩ := h.2.2.2.2 d hd
  have hno : (∀ j, j < q.length → fd j ≠ d) → ix (ttx g d) q = q.length := fun hh => ix_not (fun hm => by
    obtain ⟨x1, x2⟩ := ix_mem hm
    obtain ⟨f1, f2, f3, f4⟩ := hF _ x1
    exact hh _ x1 (h.1.inj f2 hd (by rw [f3, x2])))
  unfold m_Explorer_placeOf m_Terms_tagOf
  rw [ld_of (by omega) (by omega), Option.bind_some, cal_same, t1]
  show (if Int32.ofNat q.length ≤ Int32.ofNat (ttg g d) then some (M, Int32.ofNat q.length) else (ldA M 26 (Int32.ofNat (ttg g d))).bind fun v2 => if ¬ v2 = Int32.ofNat d then some (M, Int32.ofNat q.length) else some (M, Int32.ofNat (ttg g d))) = _
  by_cases hc : q.length ≤ ttg g d
  · rw [if_pos (by rw [i_le_of (by omega) (by omega)]; exact hc), hno (fun j hj e => by
      have := (hF j hj).2.2.2
      rw [e] at this
      omega)]
  · obtain ⟨f1, f2, f3, f4⟩ := hF (ttg g d) (by omega)
    rw [if_neg (by rw [i_le_of (by omega) (by omega)]; exact hc), ld_of (by omega) (by omega), f1, Option.bind_some]
    by_cases he : fd (ttg g d) = d
    · rw [if_neg (fun q => q (by rw [he]))]
      rw [he] at f3
      rw [f3, ix_getD hn (by omega)]
    · rw [if_pos (by rw [i_eq_of (by omega) (by omega)]; exact he), hno (fun j hj e => by
        have := (hF j hj).2.2.2
        rw [e] at this
        rw [this] at he
        exact he e)]
