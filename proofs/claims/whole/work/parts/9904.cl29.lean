/-! STEP 2, the class: groups of states that pairs link -/
def UFr (M : MS) (N n : Nat) (L h : Nat → Nat) (rs : List Nat) : Prop := (∀ x, x < N → gA M 87 x = Int32.ofNat (L x) ∧ L x < N ∧ h x ≤ n ∧ (L x ≠ x → h (L x) < h x)) ∧ rs.Nodup ∧ rs.length + n = N ∧ ∀ x, x ∈ rs ↔ x < N ∧ L x = x
theorem UFr.halve {M : MS} {N n : Nat} {L h : Nat → Nat} {rs : List Nat} (hU : UFr M N n L h rs) {x : Nat} (hx : x < N) (hne : L x ≠ x) : UFr (sA M 87 x (Int32.ofNat (L (L x)))) N n (updN L x (L (L x))) h rs := by
  obtain ⟨h1, h2, h3, h4⟩ := hU
  obtain ⟨a1, a2, a3, a4⟩ := h1 x hx
  obtain ⟨b1, b2, b3, b4⟩ := h1 (L x) a2
  have hlt : h (L (L x)) < h x := by
    by_cases e : L (L x) = L x
    · rw [e]; exact a4 hne
    · exact Nat.lt_trans (b4 e) (a4 hne)
  refine ⟨fun y hy => ?_, h2, h3, fun y => ?_⟩
  · rw [gA_sA]
    by_cases e : y = x
    · rw [if_pos ⟨rfl, e⟩, e, updN_eq]
      exact ⟨rfl, b2, a3, fun _ => hlt⟩
    · rw [if_neg (fun q => e q.2), updN_ne _ _ e]
      exact h1 y hy
  · rw [h4]
    by_cases e : y = x
    · rw [e, updN_eq]
      refine ⟨fun q => absurd q.2 hne, fun q => ?_⟩
      rw [q.2] at hlt
      omega
    · rw [updN_ne _ _ e]
theorem c_leader4 {N n : Nat} {h : Nat → Nat} {rs : List Nat} {P : (Nat → Bool) → Prop} (hN : N ≤ 300) : ∀ (k st x F : Nat) (M : MS) (L : Nat → Nat), UFr M N n L h rs → gL M 87 = 300 → (∀ v, P v → ∀ x, x < N → v (L x) = v x) → h x ≤ k → x < N → st + k < 300 → k < F →
    ∃ M1 L1 r, fx (fun (k : Int32 × Int32 × MS → Option (MS × Int32)) (i : Int32 × Int32 × MS) => m_Comparison_leaderOf_4b k i.1 i.2.1 i.2.2) F (Int32.ofNat x, Int32.ofNat st, M) = some (M1, Int32.ofNat r) ∧ UFr M1 N n L1 h rs ∧ (∀ v, P v → ∀ x, x < N → v (L1 x) = v x) ∧ Fr [87] [] M M1 ∧ r < N ∧ L1 r = r ∧ ∀ v, P v → v r = v x := by
  intro k
  induction k using Nat.strongRecOn with
  | ind k ih =>
    intro st x F M L hU l87 hP hk hx hst hF
    obtain ⟨a1, a2, a3, a4⟩ := hU.1 x hx
    obtain ⟨b1, b2, b3, b4⟩ := hU.1 (L x) a2
    cases F with
    | zero => omega
    | succ F =>
      by_cases e : L x = x
      · refine ⟨M, L, x, ?_, hU, hP, Fr.rf, hx, e, fun v _ => rfl⟩
        show m_Comparison_leaderOf_4b _ (Int32.ofNat x) (Int32.ofNat st) M = _
        unfold m_Comparison_leaderOf_4b
        rw [if_neg (by rw [show (300 : Int32) = Int32.ofNat 300 from rfl, i_le_of (by omega) (by omega)]; omega), ld_of (by omega) (by omega), a1, Option.bind_some, if_pos (by rw [e])]
      · have hlt := a4 e
        have hle : h (L (L x)) ≤ h (L x) := by
          by_cases e2 : L (L x) = L x
          · rw [e2]; exact Nat.le_refl _
          · exact Nat.le_of_lt (b4 e2)
        obtain ⟨M1, L1, r, d1, d2, d3, d4, d5, d6, d7⟩ := ih (h (L x)) (by omega) (st + 1) (L (L x)) F (sA M 87 x (Int32.ofNat (L (L x)))) (updN L x (L (L x))) (hU.halve hx e) l87 (fun v hv y hy => by
          by_cases ey : y = x
          · rw [ey, updN_eq, hP v hv _ a2, hP v hv _ hx]
          · rw [updN_ne _ _ ey]
            exact hP v hv y hy) hle b2 (by omega) (by omega)
        refine ⟨M1, L1, r, ?_, d2, d3, (Fr.stA (by simp)).tr d4, d5, d6, fun v hv => ?_⟩
        · show m_Comparison_leaderOf_4b _ (Int32.ofNat x) (Int32.ofNat st) M = _
          unfold m_Comparison_leaderOf_4b
          rw [if_neg (by rw [show (300 : Int32) = Int32.ofNat 300 from rfl, i_le_of (by omega) (by omega)]; omega), ld_of (by omega) (by omega), a1, Option.bind_some, if_neg (by rw [i_eq_of (by omega) (by omega)]; exact e), Option.bind_some, ld_of (by omega) (by omega), b1, Option.bind_some, st_of (by omega) (by omega), Option.bind_some, ld_of (by show x < gL M 87; omega) (by omega), gA_sA, if_pos ⟨rfl, rfl⟩, Option.bind_some, i_inc]
          exact d1
        · rw [d7 v hv, hP v hv _ a2, hP v hv _ hx]
theorem c_leaderOf {N n : Nat} {h : Nat → Nat} {rs : List Nat} {P : (Nat → Bool) → Prop} (hN : N ≤ 300) {x : Nat} {M : MS} {L : Nat → Nat} (hU : UFr M N n L h rs) (hn : n < 300) (l87 : gL M 87 = 300) (hP : ∀ v, P v → ∀ x, x < N → v (L x) = v x) (hx : x < N) :
    ∃ M1 L1 r, m_Comparison_leaderOf (Int32.ofNat x) M = some (M1, Int32.ofNat r) ∧ UFr M1 N n L1 h rs ∧ (∀ v, P v → ∀ x, x < N → v (L1 x) = v x) ∧ Fr [87] [] M M1 ∧ r < N ∧ L1 r = r ∧ ∀ v, P v → v r = v x := by
  have := (hU.1 x hx).2.2.1
  exact c_leader4 hN n 0 x FU M L hU l87 hP this hx (by omega) (by unfold FU; omega)
theorem UFr.lt {M : MS} {N n : Nat} {L h : Nat → Nat} {rs : List Nat} (hU : UFr M N n L h rs) {x : Nat} (hx : x < N) (hr : L x = x) : n < N := by
  obtain ⟨h1, h2, h3, h4⟩ := hU
  have : 0 < rs.length := List.length_pos_of_mem ((h4 x).mpr ⟨hx, hr⟩)
  omega
/-- a root goes under another -/
theorem UFr.link {M : MS} {N n : Nat} {L h : Nat → Nat} {rs : List Nat} (hU : UFr M N n L h rs) {x y : Nat} (hx : x < N) (hy : y < N) (hrx : L x = x) (hry : L y = y) (hne : x ≠ y) : UFr (sA M 87 x (Int32.ofNat y)) N (n + 1) (updN L x y) (fun z => if z = y then 0 else h z + 1) (rs.erase x) := by
  obtain ⟨h1, h2, h3, h4⟩ := hU
  have hm := (h4 x).mpr ⟨hx, hrx⟩
  refine ⟨fun z hz => ?_, h2.erase x, ?_, fun z => ?_⟩
  · obtain ⟨a1, a2, a3, a4⟩ := h1 z hz
    rw [gA_sA]
    by_cases e : z = x
    · rw [if_pos ⟨rfl, e⟩, e, updN_eq]
      refine ⟨rfl, hy, ?_, fun _ => ?_⟩
      · show (if x = y then 0 else h x + 1) ≤ n + 1
        rw [if_neg hne, ← e]
        omega
      · show (if y = y then 0 else h y + 1) < (if x = y then 0 else h x + 1)
        rw [if_pos rfl, if_neg hne]
        omega
    · rw [if_neg (fun q => e q.2), updN_ne _ _ e]
      refine ⟨a1, a2, ?_, fun q => ?_⟩
      · show (if z = y then 0 else h z + 1) ≤ n + 1
        split <;> omega
      · have := a4 q
        show (if L z = y then 0 else h (L z) + 1) < (if z = y then 0 else h z + 1)
        rw [if_neg (show ¬ z = y from fun ez => q (by rw [ez]; exact hry))]
        split <;> omega
  · rw [List.length_erase_of_mem hm]
    have : 0 < rs.length := List.length_pos_of_mem hm
    omega
  · rw [h2.mem_erase_iff, h4]
    by_cases e : z = x
    · rw [e, updN_eq]
      exact ⟨fun q => absurd rfl q.1, fun q => absurd q.2.symm hne⟩
    · rw [updN_ne _ _ e]
      exact ⟨fun q => q.2, fun q => ⟨e, q⟩⟩
/-- isNewPair -/
theorem c_newPair {n nq np a b : Nat} {h : Nat → Nat} {rs : List Nat} {P : (Nat → Bool) → Prop} {M : MS} {L : Nat → Nat} (hN : nq + np ≤ 300) (ha : a < nq) (hb : b < np) (hU : UFr M (nq + np) n L h rs) (hn : n < 300) (h6 : gI M 86 6 = Int32.ofNat n) (hl : gL M 87 = 300 ∧ gL M 88 = 300 ∧ gL M 89 = 300) (hP : ∀ v, P v → ∀ x, x < nq + np → v (L x) = v x) :
    (∃ M1 L1, m_Comparison_isNewPair (Int32.ofNat a) (Int32.ofNat b) (Int32.ofNat nq) M = some (M1, 0) ∧ UFr M1 (nq + np) n L1 h rs ∧ (∀ v, P v → ∀ x, x < nq + np → v (L1 x) = v x) ∧ Fr [87] [] M M1 ∧ ∀ v, P v → v a = v (nq + b)) ∨
    (∃ M1 L1 h1 rs1, m_Comparison_isNewPair (Int32.ofNat a) (Int32.ofNat b) (Int32.ofNat nq) M = some (M1, 1) ∧ UFr M1 (nq + np) (n + 1) L1 h1 rs1 ∧ (∀ v, P v → v a = v (nq + b) → ∀ x, x < nq + np → v (L1 x) = v x) ∧ Fr [87, 88, 89] [] M M1 ∧ (∀ m, gA M1 88 m = if m = n then Int32.ofNat a else gA M 88 m) ∧ (∀ m, gA M1 89 m = if m = n then Int32.ofNat b else gA M 89 m) ∧ n + 1 < 300) := by
  obtain ⟨M1, L1, r, d1, d2, d3, d4, d5, d6, d7⟩ := c_leaderOf hN hU hn hl.1 hP (x := a) (by omega)
  obtain ⟨M2, L2, r', e1, e2, e3, e4, e5, e6, e7⟩ := c_leaderOf hN d2 hn (by rw [d4.ln]; exact hl.1) d3 (x := nq + b) (by omega)
  have hfr := d4.tr e4
  have hgo : m_Comparison_isNewPair (Int32.ofNat a) (Int32.ofNat b) (Int32.ofNat nq) M = (if Int32.ofNat r = Int32.ofNat r' then (some (M2, (0:Int32))) else (if ¬ (gI M2 86 6) = (300:Int32) then ((stA M2 87 (Int32.ofNat r) (Int32.ofNat r')).bind fun M3 =>
  (stA M3 88 (gI M3 86 6) (Int32.ofNat a)).bind fun M4 =>
  (stA M4 89 (gI M4 86 6) (Int32.ofNat b)).bind fun M5 =>
  some (M5, (1:Int32))) else (some (M2, (0:Int32))))) := by
    unfold m_Comparison_isNewPair
    rw [cal_some d1 d4.le.1 d4.le.2, i_add_of, cal_some e1 e4.le.1 e4.le.2]
  have hg6 : gI M2 86 6 = Int32.ofNat n := by rw [hfr.gi (by decide)]; exact h6
  by_cases he : r = r'
  · left
    refine ⟨M2, L2, ?_, e2, e3, hfr, fun v hv => ?_⟩
    · rw [hgo, if_pos (by rw [he])]
    · rw [← d7 v hv, ← e7 v hv, he]
  · right
    have l2 : gL M2 = gL M := hfr.ln
    by_cases hroot : L2 r = r
    · have hlk := e2.link d5 e5 hroot e6 he
      have hn1 := hlk.lt (x := r') e5 (by rw [updN_ne _ _ (fun q => he q.symm)]; exact e6)
      refine ⟨sA (sA (sA M2 87 r (Int32.ofNat r')) 88 n (Int32.ofNat a)) 89 n (Int32.ofNat b), updN L2 r r', (fun z => if z = r' then 0 else h z + 1), rs.erase r, ?_, ?_, fun v hv hab y hy => ?_, ?_, fun m => ?_, fun m => ?_, by omega⟩
      · rw [hgo, if_neg (by rw [i_eq_of (by omega) (by omega)]; exact he), hg6, if_pos (by rw [show (300 : Int32) = Int32.ofNat 300 from rfl, i_eq_of (by omega) (by omega)]; omega), st_of (by rw [l2, hl.1]; omega) (by omega), Option.bind_some]
        show ((stA (sA M2 87 r (Int32.ofNat r')) 88 (gI M2 86 6) (Int32.ofNat a)).bind _) = _
        rw [hg6, st_of (by show n < gL M2 88; rw [l2, hl.2.1]; omega) (by omega), Option.bind_some]
        show ((stA (sA (sA M2 87 r (Int32.ofNat r')) 88 n (Int32.ofNat a)) 89 (gI M2 86 6) (Int32.ofNat b)).bind _) = _
        rw [hg6, st_of (by show n < gL M2 89; rw [l2, hl.2.2]; omega) (by omega), Option.bind_some]
      · obtain ⟨k1, k2⟩ := hlk
        refine ⟨fun z hz => ?_, k2⟩
        rw [gA_sA, if_neg (by omega), gA_sA, if_neg (by omega)]
        exact k1 z hz
      · by_cases ey : y = r
        · rw [ey, updN_eq, e7 v hv, d7 v hv, hab]
        · rw [updN_ne _ _ ey]
          exact e3 v hv y hy
      · exact ((hfr.mono (by decide) (by decide)).tr (Fr.stA (by decide))).tr ((Fr.stA (by decide)).tr (Fr.stA (by decide)))
      · rw [gA_sA, if_neg (by omega), gA_sA]
        by_cases em : m = n
        · rw [if_pos ⟨rfl, em⟩, if_pos em]
        · rw [if_neg (by omega), if_neg em, gA_sA, if_neg (by omega), hfr.ga (by decide)]
      · rw [gA_sA]
        by_cases em : m = n
        · rw [if_pos ⟨rfl, em⟩, if_pos em]
        · rw [if_neg (by omega), if_neg em, gA_sA, if_neg (by omega), gA_sA, if_neg (by omega), hfr.ga (by decide)]
    · exfalso
      have h1 := (d2.2.2.2 r).mpr ⟨d5, d6⟩
      exact hroot ((e2.2.2.2 r).mp h1).2
/-! the word that leads to a pair -/
def FMc (M : MS) (D : Nat → List Nat) (n : Nat) : Prop := D 0 = [] ∧ gA M 90 0 = -1 ∧ ∀ m, 0 < m → m < n → ∃ f d, f < m ∧ d < 4 ∧ D m = D f ++ [d] ∧ gA M 90 m = Int32.ofNat f ∧ gA M 91 m = Int32.ofNat d
theorem FMc.len {M : MS} {D : Nat → List Nat} {n : Nat} (h : FMc M D n) : ∀ m, m < n → (D m).length ≤ m := by
  intro m
  induction m using Nat.strongRecOn with
  | ind m ih =>
    intro hm
    by_cases h0 : m = 0
    · rw [h0, h.1]; exact Nat.le_refl _
    · obtain ⟨f, d, h1, h2, h3, h4⟩ := h.2.2 m (by omega) hm
      have := ih f h1 (by omega)
      rw [h3, List.length_append, List.length_singleton]
      omega
theorem FMc.fr {M M1 : MS} {D : Nat → List Nat} {n : Nat} {R : List Nat} {F : List (Nat × Nat)} (h : FMc M D n) (hf : Fr R F M M1) (h1 : 90 ∉ R) (h2 : 91 ∉ R) : FMc M1 D n := by
  refine ⟨h.1, by rw [hf.ga h1]; exact h.2.1, fun x hx hxn => ?_⟩
  obtain ⟨f, d, q1, q2, q3, q4, q5⟩ := h.2.2 x hx hxn
  exact ⟨f, d, q1, q2, q3, by rw [hf.ga h1]; exact q4, by rw [hf.ga h2]; exact q5⟩
theorem c_keep7 {M : MS} {D : Nat → List Nat} {n k : Nat} (h90 : gL M 90 = 300) (hn : n ≤ 300) (hF : FMc M D n) : ∀ (m a F : Nat), m < n → a + m < 300 → m < F → fx (fun (k : Int32 × Int32 × MS → Option (MS × Unit)) (i : Int32 × Int32 × MS) => m_Comparison_keepWordTo_7b k i.1 i.2.1 i.2.2) F (Int32.ofNat k, Int32.ofNat m, sI M 86 7 (Int32.ofNat a)) = m_Comparison_keepWordTo_47 (Int32.ofNat k) (sI M 86 7 (Int32.ofNat (a + (D m).length))) := by
  intro m
  induction m using Nat.strongRecOn with
  | ind m ih =>
    intro a F hm ha hF2
    cases F with
    | zero => omega
    | succ F =>
      show m_Comparison_keepWordTo_7b _ (Int32.ofNat k) (Int32.ofNat m) (sI M 86 7 (Int32.ofNat a)) = _
      have hg : ∀ x : Int32, gI (sI M 86 7 x) 86 7 = x := fun x => by rw [gI_sI, if_pos ⟨rfl, rfl⟩]
      unfold m_Comparison_keepWordTo_7b
      rw [ld_of (by show _ < gL M 90; omega) (by omega), hg, Option.bind_some, gA_sI]
      by_cases h0 : m = 0
      · subst h0
        rw [hF.2.1, if_pos rfl, hF.1]
        rfl
      · obtain ⟨f, d, h1, h2, h3, h4, h5⟩ := hF.2.2 m (by omega) hm
        rw [h4, if_neg (i_nm1 (by omega)), if_neg (by rw [show (300 : Int32) = Int32.ofNat 300 from rfl, i_le_of (by omega) (by omega)]; omega), Option.bind_some, sI_sI, i_inc, ld_of (by show _ < gL M 90; omega) (by omega), gA_sI, h4, Option.bind_some]
        have := ih f h1 (a + 1) F (by omega) (by omega) (by omega)
        refine this.trans ?_
        rw [h3, List.length_append, List.length_singleton, show a + 1 + (D f).length = a + ((D f).length + 1) by omega]
theorem At_frontG {M : MS} {b a d : Nat} {s : List Nat} (hA : At M b (a + 1) s) : At (sA M b a (Int32.ofNat d)) b a (d :: s) := by
  have hA1 := hA.1
  refine ⟨by rw [gL_sA, List.length_cons]; omega, fun j hj => ?_⟩
  rw [List.length_cons] at hj
  rw [gA_sA]
  cases j with
  | zero => rw [if_pos ⟨rfl, by omega⟩, List.getD_cons_zero]
  | succ j => rw [if_neg (by omega), show a + (j + 1) = a + 1 + j by omega, hA.2 j (by omega), List.getD_cons_succ]
theorem fx_s {ι β : Type} {b : (ι → Option β) → ι → Option β} {F : Nat} {i : ι} : fx b (F + 1) i = b (fx b F) i := rfl
theorem c_keep56 {D : Nat → List Nat} {n : Nat} (hn : n ≤ 300) : ∀ (m : Nat) (M : MS) (s : List Nat) (F : Nat), m < n → gL M 90 = 300 → gL M 91 = 300 → gL M 92 = 300 → FMc M D n → At M 92 (D m).length s → m < F → ∃ M1, fx (fun (k : Int32 × Int32 × MS → Option (MS × Unit)) (i : Int32 × Int32 × MS) => m_Comparison_keepWordTo_56b k i.1 i.2.1 i.2.2) F (Int32.ofNat m, Int32.ofNat (D m).length + -1, M) = some (M1, ()) ∧ At M1 92 0 (D m ++ s) ∧ Fr [92] [] M M1 := by
  intro m
  induction m using Nat.strongRecOn with
  | ind m ih =>
    intro M s F hm h90 h91 h92 hF hA hF2
    have hl := hF.len m hm
    cases F with
    | zero => omega
    | succ F =>
      by_cases h0 : m = 0
      · subst h0
        refine ⟨M, ?_, ?_, Fr.rf⟩
        · rw [fx_s]
          generalize fx _ F = k
          rw [hF.1]
          show m_Comparison_keepWordTo_56b k (Int32.ofNat 0) (Int32.ofNat 0 + -1) M = some (M, ())
          unfold m_Comparison_keepWordTo_56b
          rw [if_pos (by decide)]
        · rw [hF.1] at hA ⊢
          rw [List.nil_append]
          rw [List.length_nil] at hA
          exact hA
      · obtain ⟨f, d, h1, h2, h3, h4, h5⟩ := hF.2.2 m (by omega) hm
        rw [h3, List.length_append, List.length_singleton] at hA hl
        have hfr : Fr [92] [] M (sA M 92 (D f).length (Int32.ofNat d)) := Fr.stA (by decide)
        obtain ⟨M1, g1, g2, g3⟩ := ih f h1 (sA M 92 (D f).length (Int32.ofNat d)) (d :: s) F (by omega) h90 h91 h92 (hF.fr hfr (by decide) (by decide)) (At_frontG hA) (by omega)
        refine ⟨M1, ?_, ?_, hfr.tr g3⟩
        · refine Eq.trans ?_ g1
          rw [h3, List.length_append, List.length_singleton, i_dec (by omega) (by omega), Nat.add_sub_cancel, fx_s]
          generalize fx _ F = k
          show m_Comparison_keepWordTo_56b k (Int32.ofNat m) (Int32.ofNat (D f).length) M = _
          unfold m_Comparison_keepWordTo_56b
          rw [if_neg (by rw [i_lt, i_of (by omega), i_0]; omega), ld_of (by omega) (by omega), h5, Option.bind_some, st_of (by omega) (by omega), Option.bind_some, ld_of (by show m < gL M 90; omega) (by omega), gA_sA, if_neg (by omega), h4, Option.bind_some]
        · rw [h3, List.append_assoc]
          exact g2
theorem c_keepWordTo {M : MS} {D : Nat → List Nat} {n k : Nat} (h90 : gL M 90 = 300) (h91 : gL M 91 = 300) (h92 : gL M 92 = 300) (hn : n ≤ 300) (hF : FMc M D n) (hk : k < n) : ∃ M1, m_Comparison_keepWordTo (Int32.ofNat k) M = some (M1, ()) ∧ gI M1 86 7 = Int32.ofNat (D k).length ∧ At M1 92 0 (D k) ∧ Fr [92] [(86, 7)] M M1 := by
  have hl := hF.len k hk
  have h7 := c_keep7 (k := k) h90 hn hF k 0 FU hk (by omega) (by unfold FU; omega)
  rw [Nat.zero_add] at h7
  have hfr : Fr [92] [(86, 7)] M (sI M 86 7 (Int32.ofNat (D k).length)) := Fr.stI (by decide)
  obtain ⟨M1, g1, g2, g3⟩ := c_keep56 (D := D) hn k (sI M 86 7 (Int32.ofNat (D k).length)) [] FU hk h90 h91 h92 hF ⟨by show (D k).length + 0 ≤ gL M 92; omega, fun j hj => by simp at hj⟩ (by unfold FU; omega)
  rw [List.append_nil] at g2
  refine ⟨M1, ?_, ?_, g2, hfr.tr (g3.mono (by decide) (by decide))⟩
  · unfold m_Comparison_keepWordTo
    rw [Option.bind_some]
    refine Eq.trans h7 ?_
    unfold m_Comparison_keepWordTo_47
    have hg : gI (sI M 86 7 (Int32.ofNat (D k).length)) 86 7 = Int32.ofNat (D k).length := by rw [gI_sI, if_pos ⟨rfl, rfl⟩]
    rw [hg, Int32.sub_eq_add_neg]
    exact g1
  · rw [g3.gi (by decide), gI_sI, if_pos ⟨rfl, rfl⟩]
