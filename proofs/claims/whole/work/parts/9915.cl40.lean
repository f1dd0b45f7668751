/-! STEP 2: the start, and the end of it -/
theorem TB_g0 : TB g0 := by
  have hw : wf [6, 0] := wf_mk (x := 6) (ps := [[0]]) rfl (fun p hp => by rw [List.mem_singleton.mp hp]; exact (ok_ltT (l := 0) (by omega)).1)
  have hp : pr [6, 0] := fun x hx => by
    simp only [List.mem_cons, List.not_mem_nil, or_false] at hx
    unfold prI
    omega
  refine ⟨Nat.le_refl _, fun i hi => ⟨?_, ?_, ?_⟩, ⟨rfl, rfl, rfl⟩, ⟨rfl, rfl, rfl⟩, fun i h18 hi => absurd hi (by show ¬ i < 18; omega), fun i hi => ?_, ?_, ⟨fun i _ => rfl, fun i h17 hi => ?_, fun i j h17 hij hj => ?_⟩⟩
  · show (if i = 0 then 0 else if i < 16 then 2 else if i = 16 then 1 else 6) = if i = 0 then 0 else 2
    rw [if_pos hi]
  · show (if i = 17 then [0] else []) = []
    rw [if_neg (by omega)]
  · show (if i < 16 then ltT i else if i = 16 then [1] else [6, 0]) = ltT i
    rw [if_pos hi]
  · have hi : i < 18 := hi
    show wf (if i < 16 then ltT i else if i = 16 then [1] else [6, 0]) ∧ pr (if i < 16 then ltT i else if i = 16 then [1] else [6, 0]) ∧ (if i < 16 then ltT i else if i = 16 then [1] else [6, 0]).length ≤ 1000000
    by_cases h1 : i < 16
    · rw [if_pos h1]
      obtain ⟨a1, a2, a3⟩ := ok_ltT (l := i) (by omega)
      exact ⟨a1, a2, by omega⟩
    · rw [if_neg h1]
      by_cases h2 : i = 16
      · rw [if_pos h2]
        obtain ⟨a1, a2, a3⟩ := ok_ltT (l := 16) (by omega)
        exact ⟨a1, a2, by decide⟩
      · rw [if_neg h2]
        exact ⟨hw, hp, by decide⟩
  · have key : ∀ i j : Fin 18, ttx g0 i.val = ttx g0 j.val → i = j := by decide
    intro i j hi hj e
    have := key ⟨i, hi⟩ ⟨j, hj⟩ e
    exact congrArg Fin.val this
  · have hi : i < 18 := hi
    have e : i = 17 := by omega
    subst e
    exact Nat.le_refl _
  · have hj : j < 18 := hj
    omega
theorem start_M {M : MS} (h1 : ck1 M = true) (h2 : ck2 M = true) (h3 : ck3 M = true) : LI M 0 M ∧ ((cM M).2 ≤ 1100000 + pot M ∧ (cM M).1 ≤ 400000) := by
  unfold ck1 at h1
  unfold ck2 at h2
  unfold ck3 at h3
  simp only [Bool.and_eq_true, List.all_eq_true, decide_eq_true_eq, List.mem_range] at h1 h2 h3
  obtain ⟨⟨⟨a1, a2⟩, a3⟩, a4, a5⟩ := h1
  obtain ⟨⟨b1, b2⟩, b3⟩ := h2
  obtain ⟨⟨c1, c2⟩, c3, c4⟩ := h3
  have ln : ∀ a n, (a, n) ∈ ls0 → gL M a = n := fun a n h => a1 (a, n) h
  have fl : ∀ o k v, (o, k, v) ∈ fs0 → gI M o k = v := fun o k v h => a2 (o, k, v) h
  have l3 := ln 3 1024 (by decide)
  have hTI : TI g0 M := by
    refine ⟨TB_g0, ⟨⟨fl 2 16 18 (by decide), fl 2 17 1 (by decide)⟩, ⟨by rw [l3]; decide, by rw [l3]; decide⟩, ?_, ?_, fun i hi => ?_⟩, ⟨fun i h18 hi => absurd hi (by show ¬ i < 18; omega), fun b hb => ?_⟩, fun i c hi hc => ?_, fun i hi => ?_⟩
    · rw [l3]
      exact ⟨ln 4 1024 (by decide), ln 5 1024 (by decide), ln 6 1024 (by decide), ln 7 1024 (by decide), ln 8 1024 (by decide), ln 9 1024 (by decide), ln 10 1024 (by decide), ln 11 1024 (by decide), ln 12 4096 (by decide), ln 14 1024 (by decide)⟩
    · rw [ln 13 2048 (by decide)]
      exact ⟨by decide, by decide, by decide⟩
    · have hi : i < 18 := hi
      obtain ⟨q1, q2, q3, q4, q5, q6⟩ := b2 i hi
      refine ⟨q1, q2, q3, q4, q5, ?_, fun j hj => ?_⟩
      · show 0 + (if i = 17 then [0] else ([] : List Nat)).length ≤ 1
        split <;> simp
      · have hj : j < (if i = 17 then [0] else ([] : List Nat)).length := hj
        show gA M 13 (0 + j) = Int32.ofNat ((if i = 17 then [0] else ([] : List Nat)).getD j 0)
        by_cases e : i = 17
        · rw [if_pos e] at hj ⊢
          have e0 : j = 0 := by simpa using hj
          subst e0
          exact b3
        · rw [if_neg e] at hj
          simp at hj
    · exact ⟨[], c1 b hb, List.nodup_nil, (fun i hi => by cases hi), fun i h18 hi => absurd hi (by show ¬ i < 18; omega)⟩
    · have hi : i < 18 := hi
      exact Or.inl (c2 _ (by omega))
    · have hi : i < 18 := hi
      exact ⟨(b2 i hi).2.2.2.2.2, Nat.zero_le _⟩
  have hRW : ∀ o it, (o, 1, (0 : Int32)) ∈ fs0 → (it, 64) ∈ ls0 → RW M o it [] := fun o it h1 h2 => by
    refine ⟨fl o 1 0 h1, Nat.zero_le _, ?_, ?_, fun j hj => absurd hj (Nat.not_lt_zero _)⟩
    · rw [ln it 64 h2]; decide
    · rw [ln it 64 h2]; decide
  have hCI : CI (fun _ => [0]) none M := by
    refine ⟨g0, fun _ => 0, hTI, ⟨ln 1 16 (by decide), ln 26 150 (by decide), Nat.zero_le _, fun s hs => ⟨(b1 s hs).1, by show 0 < 18; decide, by show (ttx g0 0).length ≤ 100; decide⟩, fun j hj => absurd hj (Nat.not_lt_zero _)⟩, ⟨768, 1536, fl 2 18 768 (by decide), fl 2 19 1536 (by decide), by decide, by decide⟩, fun s _ => rfl, ⟨⟨⟨[], hRW 15 16 (by decide) (by decide)⟩, ⟨[], hRW 17 18 (by decide) (by decide)⟩, ⟨[], hRW 22 23 (by decide) (by decide)⟩, ?_, ?_, ?_, ?_⟩, ⟨[], hRW 19 20 (by decide) (by decide)⟩, ?_⟩, ⟨⟨[], hRW 78 79 (by decide) (by decide)⟩, ?_⟩, ⟨ln 25 16 (by decide), fun j hj => ⟨(a3 j hj).1, (a3 j hj).2.1⟩, ⟨ln 76 100 (by decide), ln 77 1700 (by decide)⟩, ⟨ln 81 150 (by decide), ln 82 150 (by decide), ln 83 150 (by decide), ln 84 150 (by decide), ln 85 150 (by decide)⟩, ⟨ln 87 300 (by decide), ln 88 300 (by decide), ln 89 300 (by decide), ln 90 300 (by decide), ln 91 300 (by decide), ln 92 300 (by decide)⟩, ln 94 2550 (by decide), ln 95 150 (by decide), ln 96 150 (by decide)⟩, Or.inl ⟨a4, a5⟩, fun j hj => Or.inl (a3 j hj).2.2, fl 86 7 (-1) (by decide)⟩
    · rw [ln 16 64 (by decide)]; decide
    · rw [ln 18 64 (by decide)]; decide
    · rw [ln 23 64 (by decide)]; decide
    · rw [ln 13 2048 (by decide)]; decide
    · rw [ln 20 64 (by decide)]; decide
    · rw [ln 79 64 (by decide)]; decide
  have hRI : RI (fun _ => [0]) none M := by
    refine ⟨⟨⟨ln 100 130000 (by decide), ln 101 130000 (by decide), ⟨ln 102 400 (by decide), ln 103 400 (by decide), ln 104 400 (by decide), ln 105 400 (by decide)⟩, ln 106 4000 (by decide), ln 107 4000 (by decide)⟩, ⟨ln 98 1600 (by decide), ln 99 16 (by decide)⟩, ⟨ln 108 45000 (by decide), ln 109 150 (by decide), ln 110 600 (by decide), ln 111 600 (by decide), ln 112 150 (by decide), ln 113 150 (by decide), ln 114 150 (by decide), ln 115 150 (by decide)⟩, ln 116 2700 (by decide), ln 117 22500 (by decide), ln 118 22500 (by decide), ln 119 22600 (by decide), ln 120 22500 (by decide), ln 121 1700 (by decide), ln 122 100 (by decide)⟩, fun s hs => ⟨⟨?_, fun k hk => ?_⟩, (b1 s hs).2.2, ok_ltT (l := 0) (by omega)⟩, fl 97 27 (-1) (by decide)⟩
    · rw [ln 98 1600 (by decide)]
      show 100 * s + 1 ≤ 1600
      omega
    · have e : k = 0 := by simpa using hk
      subst e
      exact (b1 s hs).2.1
  exact ⟨⟨⟨_, _, hRI, hCI⟩, ln 123 1 (by decide), Nat.le_refl _, Nat.le_refl _⟩, c3, c4⟩
theorem map_some {α : Type} {o : Option α} {f : α → Bool} {a : α} (h : o.map f = some true) (e : o = some a) : f a = true := by
  rw [e] at h
  exact Option.some.inj h
theorem law_fin : ∀ (L : Nat) (xs : Nat → Int32), L ≤ 2560 → m_Law_all xs L = some () := by
  intro L xs hL
  rw [m_Law_all_eq]
  obtain ⟨S, hS⟩ := Option.isSome_iff_exists.mp x_St_some
  have k1 := @map_some _ x_St (fun S => ck1 (MofL S)) S x_ck1 hS
  have k2 := @map_some _ x_St (fun S => ck2 (MofL S)) S x_ck2 hS
  have k3 := @map_some _ x_St (fun S => ck3 (MofL S)) S x_ck3 hS
  obtain ⟨g1, g2⟩ := @start_M (MofL S) k1 k2 k3
  rw [hS, Option.bind_some]
  exact law_all hL g1 g2
