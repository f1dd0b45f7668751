/-! STEP 2: the reference's match and has -/
theorem i_17 (a : Nat) : (17 : Int32) * Int32.ofNat a = Int32.ofNat (17 * a) := i_mul_of 17 a
/-- the spans of a part stand at its place -/
def SPN (M : MS) (w : Int32) (n k : Nat) (p : List Nat) : Prop := ∀ i, i ≤ n → Mk (gA M 121 (17 * k + i)) (sp w n p i)
def MJ (M0 : MS) (w : Int32) (n k : Nat) (p : List Nat) (i : Nat) (M : MS) : Prop := (∀ j, j < i → Mk (gA M 121 (17 * k + j)) (sp w n p j)) ∧ (∀ a, a < 17 * k ∨ 17 * k + 17 ≤ a → gA M 121 a = gA M0 121 a) ∧ Fr [121] [] M0 M
theorem MJ.kid {M0 M : MS} {w : Int32} {n k i kp : Nat} {p s : List Nat} (h : MJ M0 w n k p i M) (hk : k < kp) (hn : n ≤ 16) (hs : SPN M0 w n kp s) : SPN M w n kp s := fun j hj => by
  rw [h.2.1 _ (by omega)]
  exact hs j hj
theorem r_match52 {M0 : MS} {w l7 l8 : Int32} {n k x top : Nat} {ks : List (List Nat)} (hn : n ≤ 16) (hk : k < 100) (hx : x < 1048576) (hpx : prI x) (hax : ar x = ks.length) (wks : ∀ p ∈ ks, wf p) (htop : ks.length ≤ top) (ht2 : top ≤ 100) (l21 : gL M0 121 = 1700) (l22 : gL M0 122 = 100)
    (hK : ∀ j p, ks[j]? = some p → ∃ kp, kp < 100 ∧ k < kp ∧ gA M0 122 (top - 1 - j) = Int32.ofNat kp ∧ SPN M0 w n kp p) (h7 : ∀ p, ks[0]? = some p → ∃ kp, kp < 100 ∧ k < kp ∧ l7 = Int32.ofNat (17 * kp) ∧ SPN M0 w n kp p) (h8 : ∀ p, ks[1]? = some p → ∃ kp, kp < 100 ∧ k < kp ∧ l8 = Int32.ofNat (17 * kp) ∧ SPN M0 w n kp p) :
    Ok (m_Mo_match_52 (Int32.ofNat x, Int32.ofNat top, w, Int32.ofNat n, Int32.ofNat (17 * k), l7, l8, 0, M0)) (fun r => MJ M0 w n k (x :: ks.flatten) (n + 1) r.1) := by
  have hsp := sp_mk (w := w) (n := n) hax wks
  have hm8 : x % 8 < 8 := Nat.mod_lt _ (by omega)
  unfold m_Mo_match_52
  refine ok_fx (inv := fun z => ∃ (i : Nat) (M : MS), z = (Int32.ofNat x, Int32.ofNat top, w, Int32.ofNat n, Int32.ofNat (17 * k), l7, l8, Int32.ofNat i, M) ∧ i ≤ n + 1 ∧ MJ M0 w n k (x :: ks.flatten) i M) (μ := fun z => 18 - z.2.2.2.2.2.2.2.1.toInt.toNat) ?_ _ ⟨0, M0, rfl, by omega, fun j hj => by omega, fun _ _ => rfl, Fr.rf⟩ (by unfold FU; omega)
  intro k52 z hz ih
  obtain ⟨i, M, rfl, hi, hJ⟩ := hz
  have hln := hJ.2.2.ln
  show Ok (m_Mo_match_52b k52 (Int32.ofNat x) (Int32.ofNat top) w (Int32.ofNat n) (Int32.ofNat (17 * k)) l7 l8 (Int32.ofNat i) M) _
  unfold m_Mo_match_52b
  by_cases hend : i = n + 1
  · rw [if_pos (by rw [i_lt_of (by omega) (by omega)]; omega)]
    rw [hend] at hJ
    exact ok_some hJ
  · have hin : i ≤ n := by omega
    have fin : ∀ v : Int32, Mk v (sp w n (x :: ks.flatten) i) → Ok (m_Mo_match_415 k52 (Int32.ofNat x) (Int32.ofNat top) w (Int32.ofNat n) (Int32.ofNat (17 * k)) l7 l8 (Int32.ofNat i) v M) (fun r => MJ M0 w n k (x :: ks.flatten) (n + 1) r.1) := by
      intro v hv
      unfold m_Mo_match_415
      rw [i_add_of, st_of (by rw [hln]; omega) (by omega), Option.bind_some, i_inc]
      refine ih (Int32.ofNat x, Int32.ofNat top, w, Int32.ofNat n, Int32.ofNat (17 * k), l7, l8, Int32.ofNat (i + 1), sA M 121 (17 * k + i) v) ⟨i + 1, _, rfl, by omega, fun j hj => ?_, fun a ha => ?_, hJ.2.2.tr (Fr.stA (by decide))⟩ (by show 18 - (Int32.ofNat (i + 1)).toInt.toNat < 18 - (Int32.ofNat i).toInt.toNat; rw [i_of (by omega), i_of (by omega)]; omega)
      · rw [gA_sA]
        by_cases hji : j = i
        · rw [if_pos ⟨rfl, by rw [hji]⟩, hji]; exact hv
        · rw [if_neg (by omega)]; exact hJ.1 j (by omega)
      · rw [gA_sA, if_neg (by omega)]; exact hJ.2.1 a ha
    rw [hsp] at fin
    unfold m_Mo_sort
    rw [if_neg (by rw [i_lt_of (by omega) (by omega)]; omega), cal_same, it_and]
    have hsort : ∀ c : Nat, c < 8 → (Int32.ofNat (x % 8) = Int32.ofNat c ↔ x % 8 = c) := fun c hc => i_eq_of (by omega) (by omega)
    by_cases c0 : x % 8 = 0
    · rw [if_pos (by rw [c0]; rfl)]
      refine fin 0 (Mk.no.ext (fun j => ?_))
      unfold spF
      rw [if_pos c0]
    rw [if_neg (by show ¬ Int32.ofNat (x % 8) = Int32.ofNat 0; exact fun q => c0 ((hsort 0 (by omega)).mp q))]
    by_cases c1 : x % 8 = 1
    · rw [if_pos (by show Int32.ofNat (x % 8) = 1; rw [c1]; rfl)]
      refine fin _ ((Mk.one (m := i) (by omega)).ext (fun j => ?_))
      unfold spF
      rw [if_neg c0, if_pos c1]
    rw [if_neg (by show ¬ Int32.ofNat (x % 8) = Int32.ofNat 1; exact fun q => c1 ((hsort 1 (by omega)).mp q))]
    by_cases c2 : x % 8 = 2
    · rw [if_pos (by show Int32.ofNat (x % 8) = 2; rw [c2]; rfl)]
      unfold m_Mo_match_178 m_Mo_match_179
      by_cases hni : n ≤ i
      · rw [if_pos (by rw [i_le_of (by omega) (by omega)]; exact hni)]
        refine fin 0 (Mk.no.ext (fun j => ?_))
        unfold spF
        rw [if_neg c0, if_neg c1, if_pos c2]
        exact ⟨fun h => h.elim, fun h => by omega⟩
      · rw [if_neg (by rw [i_le_of (by omega) (by omega)]; exact hni), it_shr (by omega)]
        by_cases hb : clT x w n i
        · rw [if_neg (show ¬ ¬ ((Int32.ofNat (x / 8) >>> (((w >>> (((2 : Int32) * ((Int32.ofNat n - 1) - Int32.ofNat i)) &&& 31)) &&& 3) &&& 31)) &&& (1 : Int32)) = 1 from fun q => q hb)]
          refine fin _ ((Mk.two (m := i) (by omega)).ext (fun j => ?_))
          unfold spF
          rw [if_neg c0, if_neg c1, if_pos c2]
          exact ⟨fun h => ⟨by omega, hb, h⟩, fun h => h.2.2⟩
        · rw [if_pos (show ¬ ((Int32.ofNat (x / 8) >>> (((w >>> (((2 : Int32) * ((Int32.ofNat n - 1) - Int32.ofNat i)) &&& 31)) &&& 3) &&& 31)) &&& (1 : Int32)) = 1 from hb)]
          refine fin 0 (Mk.no.ext (fun j => ?_))
          unfold spF
          rw [if_neg c0, if_neg c1, if_pos c2]
          exact ⟨fun h => h.elim, fun h => hb h.2.1⟩
    rw [if_neg (by show ¬ Int32.ofNat (x % 8) = Int32.ofNat 2; exact fun q => c2 ((hsort 2 (by omega)).mp q))]
    by_cases c3 : x % 8 = 3
    · rw [if_pos (by show Int32.ofNat (x % 8) = 3; rw [c3]; rfl)]
      rw [ar_2 c3] at hax
      match ks, hax, h7, h8, fin with
      | [a, b], hax, h7, h8, fin =>
        obtain ⟨ka, a1, a2, a3, a4⟩ := h7 a rfl
        obtain ⟨kb, b1, b2, b3, b4⟩ := h8 b rfl
        have a5 := hJ.kid a2 hn a4
        have b5 := hJ.kid b2 hn b4
        subst a3 b3
        unfold m_Mo_match_188
        refine ok_fx (inv := fun z => ∃ (m : Nat) (v : Int32), z = (Int32.ofNat x, Int32.ofNat top, w, Int32.ofNat n, Int32.ofNat (17 * k), Int32.ofNat (17 * ka), Int32.ofNat (17 * kb), Int32.ofNat i, v, Int32.ofNat m, M) ∧ i ≤ m ∧ m ≤ n + 1 ∧ Mk v (fun j => ∃ m', i ≤ m' ∧ m' < m ∧ sp w n a i m' ∧ sp w n b m' j)) (μ := fun z => 18 - z.2.2.2.2.2.2.2.2.2.1.toInt.toNat) ?_ _ ⟨i, 0, rfl, by omega, by omega, Mk.no.ext (fun j => ⟨fun h => h.elim, fun ⟨m', h1, h2, _⟩ => by omega⟩)⟩ (by unfold FU; omega)
        intro k188 z hz ih2
        obtain ⟨m, v, rfl, hm1, hm2, hv⟩ := hz
        show Ok (m_Mo_match_188b k52 k188 (Int32.ofNat x) (Int32.ofNat top) w (Int32.ofNat n) (Int32.ofNat (17 * k)) (Int32.ofNat (17 * ka)) (Int32.ofNat (17 * kb)) (Int32.ofNat i) v (Int32.ofNat m) M) _
        unfold m_Mo_match_188b m_Mo_match_239
        by_cases hme : m = n + 1
        · rw [if_pos (by rw [i_lt_of (by omega) (by omega)]; omega)]
          refine fin v (hv.ext (fun j => ?_))
          unfold spF
          rw [if_neg c0, if_neg c1, if_neg c2, if_pos c3]
          exact ⟨fun ⟨m', h1, h2, h3, h4⟩ => ⟨m', h1, by omega, h3, h4⟩, fun ⟨m', h1, h2, h3, h4⟩ => ⟨m', h1, by omega, h3, h4⟩⟩
        · rw [if_neg (by rw [i_lt_of (by omega) (by omega)]; omega), i_add_of, ld_of (by rw [hln]; omega) (by omega), Option.bind_some, i_inc]
          have hbit := (a5 i hin).bit (m := m) (by omega)
          by_cases hb : sp w n a i m
          · rw [if_neg (fun q => q (hbit.mpr hb)), i_add_of, ld_of (by rw [hln]; omega) (by omega), Option.bind_some]
            refine ih2 (Int32.ofNat x, Int32.ofNat top, w, Int32.ofNat n, Int32.ofNat (17 * k), Int32.ofNat (17 * ka), Int32.ofNat (17 * kb), Int32.ofNat i, v ||| gA M 121 (17 * kb + m), Int32.ofNat (m + 1), M) ⟨m + 1, _, rfl, by omega, by omega, (hv.or (b5 m (by omega))).ext (fun j => ?_)⟩ (by show 18 - (Int32.ofNat (m + 1)).toInt.toNat < 18 - (Int32.ofNat m).toInt.toNat; rw [i_of (by omega), i_of (by omega)]; omega)
            constructor
            · intro h
              rcases h with ⟨m', h1, h2, h3, h4⟩ | h
              · exact ⟨m', h1, by omega, h3, h4⟩
              · exact ⟨m, hm1, by omega, hb, h⟩
            · intro ⟨m', h1, h2, h3, h4⟩
              by_cases he : m' = m
              · rw [he] at h4; exact Or.inr h4
              · exact Or.inl ⟨m', h1, by omega, h3, h4⟩
          · rw [if_pos (fun q => hb (hbit.mp q))]
            refine ih2 (Int32.ofNat x, Int32.ofNat top, w, Int32.ofNat n, Int32.ofNat (17 * k), Int32.ofNat (17 * ka), Int32.ofNat (17 * kb), Int32.ofNat i, v ||| 0, Int32.ofNat (m + 1), M) ⟨m + 1, _, rfl, by omega, by omega, (hv.or Mk.no).ext (fun j => ?_)⟩ (by show 18 - (Int32.ofNat (m + 1)).toInt.toNat < 18 - (Int32.ofNat m).toInt.toNat; rw [i_of (by omega), i_of (by omega)]; omega)
            constructor
            · intro h
              rcases h with ⟨m', h1, h2, h3, h4⟩ | h
              · exact ⟨m', h1, by omega, h3, h4⟩
              · exact h.elim
            · intro ⟨m', h1, h2, h3, h4⟩
              by_cases he : m' = m
              · rw [he] at h3; exact absurd h3 hb
              · exact Or.inl ⟨m', h1, by omega, h3, h4⟩
    rw [if_neg (by show ¬ Int32.ofNat (x % 8) = Int32.ofNat 3; exact fun q => c3 ((hsort 3 (by omega)).mp q))]
    have several : ∀ v0 : Int32, (x % 8 = 4 ∨ x % 8 = 5) → Mk v0 (fun j => if x % 8 = 4 then False else (i ≤ j ∧ j ≤ n)) → Ok (m_Mo_match_337 k52 (Int32.ofNat x, Int32.ofNat top, w, Int32.ofNat n, Int32.ofNat (17 * k), l7, l8, Int32.ofNat i, v0, 0, M)) (fun r => MJ M0 w n k (x :: ks.flatten) (n + 1) r.1) := by
      intro v0 h45 hv0
      unfold m_Mo_match_337
      refine ok_fx (inv := fun z => ∃ (m : Nat) (v : Int32), z = (Int32.ofNat x, Int32.ofNat top, w, Int32.ofNat n, Int32.ofNat (17 * k), l7, l8, Int32.ofNat i, v, Int32.ofNat m, M) ∧ m ≤ ks.length ∧ Mk v (fun j => if x % 8 = 4 then (∃ p ∈ ks.take m, sp w n p i j) else (i ≤ j ∧ j ≤ n) ∧ ∀ p ∈ ks.take m, sp w n p i j)) (μ := fun z => 101 - z.2.2.2.2.2.2.2.2.2.1.toInt.toNat) ?_ _ ⟨0, v0, rfl, by omega, hv0.ext (fun j => by
          rcases h45 with h | h
          · rw [if_pos h, if_pos h]; simp
          · rw [if_neg (by omega), if_neg (by omega)]; simp)⟩ (by unfold FU; omega)
      intro k337 z hz ih2
      obtain ⟨m, v, rfl, hm, hv⟩ := hz
      show Ok (m_Mo_match_337b k52 k337 (Int32.ofNat x) (Int32.ofNat top) w (Int32.ofNat n) (Int32.ofNat (17 * k)) l7 l8 (Int32.ofNat i) v (Int32.ofNat m) M) _
      unfold m_Mo_match_337b m_Mo_sort
      rw [r_arity hx, cal_same, hax]
      by_cases hme : m = ks.length
      · rw [if_pos (by show Int32.ofNat ks.length ≤ Int32.ofNat m; rw [hme]; exact Int32.le_refl _)]
        rw [hme, List.take_length] at hv
        refine fin v (hv.ext (fun j => ?_))
        unfold spF
        rw [if_neg c0, if_neg c1, if_neg c2, if_neg c3]
        rcases h45 with h | h
        · rw [if_pos h, if_pos h]
          exact ⟨fun ⟨p, h1, h2⟩ => ⟨sp w n p, List.mem_map.mpr ⟨p, h1, rfl⟩, h2⟩, fun ⟨f, h1, h2⟩ => by
            obtain ⟨p, h3, rfl⟩ := List.mem_map.mp h1
            exact ⟨p, h3, h2⟩⟩
        · rw [if_neg (by omega), if_neg (by omega), if_pos h]
          exact ⟨fun ⟨h1, h2⟩ => ⟨h1, fun f hf => by
            obtain ⟨p, h3, rfl⟩ := List.mem_map.mp hf
            exact h2 p h3⟩, fun ⟨h1, h2⟩ => ⟨h1, fun p hp => h2 _ (List.mem_map.mpr ⟨p, hp, rfl⟩)⟩⟩
      · have hml : m < ks.length := by omega
        rw [if_neg (by show ¬ Int32.ofNat ks.length ≤ Int32.ofNat m; rw [i_le_of (by omega) (by omega)]; omega), cal_same, it_and]
        have hg : ks[m]? = some (ks.getD m []) := getD_some hml
        obtain ⟨kp, p1, p2, p3, p4⟩ := hK m _ hg
        have p5 := hJ.kid p2 hn p4
        have hld : ldA M 122 (Int32.ofNat top - 1 - Int32.ofNat m) = some (Int32.ofNat kp) := by
          rw [i_pred (by omega) (by omega), i_sub_of (by omega) (by omega), ld_of (by rw [hln]; omega) (by omega), hJ.2.2.ga (by decide), p3]
        have htake : ∀ p, p ∈ ks.take (m + 1) ↔ p ∈ ks.take m ∨ p = ks.getD m [] := fun p => by
          rw [List.take_add_one, hg]
          simp
        rcases h45 with h | h
        · rw [if_neg (by show ¬ ¬ Int32.ofNat (x % 8) = 4; rw [h]; decide), hld, Option.bind_some, i_17, i_add_of, ld_of (by rw [hln]; omega) (by omega), Option.bind_some, i_inc]
          refine ih2 (Int32.ofNat x, Int32.ofNat top, w, Int32.ofNat n, Int32.ofNat (17 * k), l7, l8, Int32.ofNat i, v ||| gA M 121 (17 * kp + i), Int32.ofNat (m + 1), M) ⟨m + 1, _, rfl, by omega, (hv.or (p5 i hin)).ext (fun j => ?_)⟩ (by show 101 - (Int32.ofNat (m + 1)).toInt.toNat < 101 - (Int32.ofNat m).toInt.toNat; rw [i_of (by omega), i_of (by omega)]; omega)
          rw [if_pos h, if_pos h]
          constructor
          · intro hq
            rcases hq with ⟨p, h1, h2⟩ | hq
            · exact ⟨p, (htake p).mpr (Or.inl h1), h2⟩
            · exact ⟨_, (htake _).mpr (Or.inr rfl), hq⟩
          · intro ⟨p, h1, h2⟩
            rcases (htake p).mp h1 with h1 | h1
            · exact Or.inl ⟨p, h1, h2⟩
            · rw [h1] at h2; exact Or.inr h2
        · rw [if_pos (by show ¬ Int32.ofNat (x % 8) = 4; rw [h]; decide), hld, Option.bind_some, i_17, i_add_of, ld_of (by rw [hln]; omega) (by omega), Option.bind_some, i_inc]
          refine ih2 (Int32.ofNat x, Int32.ofNat top, w, Int32.ofNat n, Int32.ofNat (17 * k), l7, l8, Int32.ofNat i, v &&& gA M 121 (17 * kp + i), Int32.ofNat (m + 1), M) ⟨m + 1, _, rfl, by omega, (hv.and (p5 i hin)).ext (fun j => ?_)⟩ (by show 101 - (Int32.ofNat (m + 1)).toInt.toNat < 101 - (Int32.ofNat m).toInt.toNat; rw [i_of (by omega), i_of (by omega)]; omega)
          rw [if_neg (by omega), if_neg (by omega)]
          constructor
          · intro ⟨⟨h1, h2⟩, h3⟩
            refine ⟨h1, fun p hp => ?_⟩
            rcases (htake p).mp hp with hp | hp
            · exact h2 p hp
            · rw [hp]; exact h3
          · intro ⟨h1, h2⟩
            exact ⟨⟨h1, fun p hp => h2 p ((htake p).mpr (Or.inl hp))⟩, h2 _ ((htake _).mpr (Or.inr rfl))⟩
    by_cases c4 : x % 8 = 4
    · rw [if_pos (by show Int32.ofNat (x % 8) = 4; rw [c4]; rfl), cal_same, if_neg (by show ¬ ¬ Int32.ofNat (x % 8) = 4; rw [c4]; decide)]
      exact several 0 (Or.inl c4) (Mk.no.ext (fun j => by rw [if_pos c4]))
    rw [if_neg (by show ¬ Int32.ofNat (x % 8) = Int32.ofNat 4; exact fun q => c4 ((hsort 4 (by omega)).mp q))]
    by_cases c5 : x % 8 = 5
    · rw [if_pos (by show Int32.ofNat (x % 8) = 5; rw [c5]; rfl), cal_same, if_pos (by show ¬ Int32.ofNat (x % 8) = 4; rw [c5]; decide)]
      exact several _ (Or.inr c5) ((Mk.all (n := n) (i := i) (by omega) hin).ext (fun j => by rw [if_neg (by omega)]))
    rw [if_neg (by show ¬ Int32.ofNat (x % 8) = Int32.ofNat 5; exact fun q => c5 ((hsort 5 (by omega)).mp q))]
    rw [ar_1 (by omega)] at hax
    match ks, hax, h7, fin with
    | [a], hax, h7, fin =>
      obtain ⟨ka, a1, a2, a3, a4⟩ := h7 a rfl
      have a5 := hJ.kid a2 hn a4
      subst a3
      by_cases c6 : x % 8 = 6
      · rw [if_pos (by show Int32.ofNat (x % 8) = 6; rw [c6]; rfl), i_add_of, ld_of (by rw [hln]; omega) (by omega), Option.bind_some]
        refine fin _ (((Mk.all (n := n) (i := i) (by omega) hin).andnot (a5 i hin)).ext (fun j => ?_))
        unfold spF
        rw [if_neg c0, if_neg c1, if_neg c2, if_neg c3, if_neg c4, if_neg c5, if_pos c6]
        exact Iff.rfl
      · rw [if_neg (by show ¬ Int32.ofNat (x % 8) = Int32.ofNat 6; exact fun q => c6 ((hsort 6 (by omega)).mp q)), if_pos (by show Int32.ofNat (x % 8) = 7; rw [show x % 8 = 7 by omega]; rfl)]
        unfold m_Mo_match_272
        refine ok_fx (inv := fun z => ∃ (m : Nat) (v : Int32), z = (Int32.ofNat x, Int32.ofNat top, w, Int32.ofNat n, Int32.ofNat (17 * k), Int32.ofNat (17 * ka), l8, Int32.ofNat i, v, Int32.ofNat m, M) ∧ i ≤ m ∧ m ≤ n + 1 ∧ Mk v (fun j => j = i ∨ ∃ m', m' < m ∧ rs (sp w n a) i m' ∧ sp w n a m' j)) (μ := fun z => 18 - z.2.2.2.2.2.2.2.2.2.1.toInt.toNat) ?_ _ ⟨i, _, rfl, by omega, by omega, (Mk.one (m := i) (by omega)).ext (fun j => ⟨fun h => Or.inl h, fun h => by
          rcases h with h | ⟨m', h1, h2, h3⟩
          · exact h
          · have := rs_le h2; omega⟩)⟩ (by unfold FU; omega)
        intro k272 z hz ih2
        obtain ⟨m, v, rfl, hm1, hm2, hv⟩ := hz
        show Ok (m_Mo_match_272b k52 k272 (Int32.ofNat x) (Int32.ofNat top) w (Int32.ofNat n) (Int32.ofNat (17 * k)) (Int32.ofNat (17 * ka)) l8 (Int32.ofNat i) v (Int32.ofNat m) M) _
        unfold m_Mo_match_272b m_Mo_match_315
        by_cases hme : m = n + 1
        · rw [if_pos (by rw [i_lt_of (by omega) (by omega)]; omega)]
          refine fin v ?_
          obtain ⟨V, v1, v2, v3⟩ := hv
          refine ⟨V, v1, v2, fun j => (v3 j).trans ?_⟩
          unfold spF
          rw [if_neg c0, if_neg c1, if_neg c2, if_neg c3, if_neg c4, if_neg c5, if_neg c6]
          show (j = i ∨ ∃ m', m' < m ∧ rs (sp w n a) i m' ∧ sp w n a m' j) ↔ rs (sp w n a) i j
          have hrng := sp_rng (w := w) (n := n) a (wks a (by simp))
          constructor
          · intro h
            rcases h with h | ⟨m', h1, h2, h3⟩
            · exact rs_bwd.mpr (Or.inl h.symm)
            · have hm' : m' ≤ n := by omega
              have hj := hrng m' j hm' h3
              by_cases he : m' = j
              · rw [← he]; exact h2
              · exact rs_bwd.mpr (Or.inr ⟨m', by omega, h2, h3⟩)
          · intro h
            rcases rs_bwd.mp h with h | ⟨m', h1, h2, h3⟩
            · exact Or.inl h.symm
            · refine Or.inr ⟨m', ?_, h2, h3⟩
              obtain ⟨l, hl⟩ := h2
              have := rs_rng hrng l i m' hin hl
              omega
        · have hbit := hv.bit (m := m) (by omega)
          rw [if_neg (by rw [i_lt_of (by omega) (by omega)]; omega), i_inc]
          have hPm : (m = i ∨ ∃ m', m' < m ∧ rs (sp w n a) i m' ∧ sp w n a m' m) ↔ rs (sp w n a) i m := by
            rw [rs_bwd]
            exact ⟨fun h => h.elim (fun e => Or.inl e.symm) Or.inr, fun h => h.elim (fun e => Or.inl e.symm) Or.inr⟩
          have hbit2 := hbit.trans hPm
          clear hPm hbit
          by_cases hb : rs (sp w n a) i m
          · rw [if_neg (fun q => q (hbit2.mpr hb)), i_add_of, ld_of (by rw [hln]; omega) (by omega), Option.bind_some]
            refine ih2 (Int32.ofNat x, Int32.ofNat top, w, Int32.ofNat n, Int32.ofNat (17 * k), Int32.ofNat (17 * ka), l8, Int32.ofNat i, v ||| gA M 121 (17 * ka + m), Int32.ofNat (m + 1), M) ⟨m + 1, _, rfl, by omega, by omega, (hv.or (a5 m (by omega))).ext (fun j => ?_)⟩ (by show 18 - (Int32.ofNat (m + 1)).toInt.toNat < 18 - (Int32.ofNat m).toInt.toNat; rw [i_of (by omega), i_of (by omega)]; omega)
            constructor
            · intro h
              rcases h with (h | ⟨m', h1, h2, h3⟩) | h
              · exact Or.inl h
              · exact Or.inr ⟨m', by omega, h2, h3⟩
              · exact Or.inr ⟨m, by omega, hb, h⟩
            · intro h
              rcases h with h | ⟨m', h1, h2, h3⟩
              · exact Or.inl (Or.inl h)
              · by_cases he : m' = m
                · rw [he] at h3; exact Or.inr h3
                · exact Or.inl (Or.inr ⟨m', by omega, h2, h3⟩)
          · rw [if_pos (fun q => hb (hbit2.mp q))]
            refine ih2 (Int32.ofNat x, Int32.ofNat top, w, Int32.ofNat n, Int32.ofNat (17 * k), Int32.ofNat (17 * ka), l8, Int32.ofNat i, v ||| 0, Int32.ofNat (m + 1), M) ⟨m + 1, _, rfl, by omega, by omega, (hv.or Mk.no).ext (fun j => ?_)⟩ (by show 18 - (Int32.ofNat (m + 1)).toInt.toNat < 18 - (Int32.ofNat m).toInt.toNat; rw [i_of (by omega), i_of (by omega)]; omega)
            constructor
            · intro h
              rcases h with (h | ⟨m', h1, h2, h3⟩) | h
              · exact Or.inl h
              · exact Or.inr ⟨m', by omega, h2, h3⟩
              · exact h.elim
            · intro h
              rcases h with h | ⟨m', h1, h2, h3⟩
              · exact Or.inl (Or.inl h)
              · by_cases he : m' = m
                · rw [he] at h2; exact absurd h2 hb
                · exact Or.inl (Or.inr ⟨m', by omega, h2, h3⟩)
