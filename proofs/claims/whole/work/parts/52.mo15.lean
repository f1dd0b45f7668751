/-! STEP 2: the reference's unite, its first loop -/
theorem mo_simple {M : MS} {l1 : Int32} {fill : Nat} (ht : gL M 101 = 130000) (al : Bool) : ∃ M1, (cal cM M (m_Mo_simple l1 (if al = true then 1 else 0) M) fun r1 => some (r1.1, r1.2)) = some (M1, Int32.ofNat (if al = true then [6, 0] else [0]).length) ∧ At M1 101 0 (if al = true then [6, 0] else [0]) ∧ UF fill M M1 := by
  have hr := r_simple (M := M) (l1 := l1) (by omega) al
  rw [hr, cal_wr]
  cases al with
  | true =>
    refine ⟨_, rfl, ?_, UF.of (Fr.wr (by decide))⟩
    exact At_wr (t := [6, 0]) (j := 0) (by show 0 + 2 ≤ _; omega)
  | false =>
    refine ⟨_, rfl, ?_, UF.of (Fr.wr (by decide))⟩
    exact (At.app (t := [0]) (r := [0]) (At_wr (t := [0, 0]) (j := 0) (by show 0 + 2 ≤ _; omega))).1
theorem r_unite178 {M : MS} {s fill l3 : Nat} {l4 : Bool} {K : List (Nat × List Nat)} (hs : s = 4 ∨ s = 5) (h6 : gL M 106 = 4000) (h7 : gL M 107 = 4000) (hw : gL M 100 = 130000) (ht : gL M 101 = 130000) (hf : gI M 97 10 = Int32.ofNat fill) (hf2 : fill < 130000) (hK : PL M 0 K) (sK : ∀ d ∈ K, sm d.2) (fK : ∀ d ∈ K, d.1 + d.2.length ≤ fill) (hl : K.length + (if l4 = true then 1 else 0) ≤ 4000) (hl3 : l3 < 131072) (hlen : (K.map Prod.snd).flatten.length + 3 ≤ 130000) :
    ∃ M1, m_Mo_unite_178 (Int32.ofNat s) (if s = 4 then 1 else 0) (Int32.ofNat l3) (if l4 = true then 1 else 0) (Int32.ofNat K.length) M = some (M1, Int32.ofNat (uniE s (K.map Prod.snd) l3 l4).length) ∧ At M1 101 0 (uniE s (K.map Prod.snd) l3 l4) ∧ UF fill M M1 := by
  unfold m_Mo_unite_178
  cases l4 with
  | false =>
    have e : uniE s (K.map Prod.snd) l3 false = mkS s (srt (K.map Prod.snd)) := by simp [uniE]
    rw [e, if_pos (by decide)]
    unfold m_Mo_unite_194
    rw [if_pos (by decide)]
    exact r_unite235 hs h6 h7 hw ht hK sK (by simpa using hl) (by omega)
  | true =>
    rw [if_neg (by decide)]
    by_cases h0 : l3 = 0
    · have e : uniE s (K.map Prod.snd) l3 true = [0] := by simp [uniE, h0]
      rw [e, if_neg (by rw [h0]; decide)]
      exact mo_simple ht false
    · have e : uniE s (K.map Prod.snd) l3 true = mkS s (srt ((K ++ [(fill, [2 + 8 * l3])]).map Prod.snd)) := by simp [uniE, h0]
      simp only [if_true] at hl
      have hKl : K.length < 4000 := by omega
      rw [e, if_pos (by rw [i_eq, i_of (by omega), i_0]; omega)]
      unfold m_Mo_unite_194
      rw [if_neg (by decide), hf, i_shl3, show (2 : Int32) = Int32.ofNat 2 from rfl, i_or_of, or_8 (by omega), st_of (by omega) (by omega)]
      simp only [Option.bind_some]
      have e1 : gI (sA M 100 fill (Int32.ofNat (2 + 8 * l3))) 97 10 = Int32.ofNat fill := hf
      rw [e1, st_of (by show _ < gL M 106; omega) (by omega)]
      simp only [Option.bind_some]
      rw [st_of (by show _ < gL M 107; omega) (by omega)]
      simp only [Option.bind_some]
      have hUF : UF fill M (sA (sA (sA M 100 fill (Int32.ofNat (2 + 8 * l3))) 106 K.length (Int32.ofNat fill)) 107 K.length 1) := by
        refine ⟨((Fr.stA (by decide)).tr (Fr.stA (by decide))).tr (Fr.stA (by decide)), fun p hp => ?_⟩
        rw [gA_sA, if_neg (by omega), gA_sA, if_neg (by omega), gA_sA, if_neg (by omega)]
      have hPL : PL (sA (sA (sA M 100 fill (Int32.ofNat (2 + 8 * l3))) 106 K.length (Int32.ofNat fill)) 107 K.length 1) 0 (K ++ [(fill, [2 + 8 * l3])]) := by
        intro i q hq
        rw [Nat.zero_add]
        rcases Nat.lt_or_ge i K.length with hi | hi
        · rw [List.getElem?_append_left hi] at hq
          obtain ⟨g1, g2, g3⟩ := hK i q hq
          rw [Nat.zero_add] at g1 g2
          have hqm : q ∈ K := List.mem_of_getElem? hq
          refine ⟨?_, ?_, hUF.at (fK q hqm) g3⟩
          · rw [gA_sA, if_neg (by omega), gA_sA, if_neg (by omega), gA_sA, if_neg (by omega)]
            exact g1
          · rw [gA_sA, if_neg (by omega), gA_sA, if_neg (by omega), gA_sA, if_neg (by omega)]
            exact g2
        · rw [List.getElem?_append_right hi] at hq
          have hi2 := (List.getElem?_eq_some_iff.mp hq).1
          simp only [List.length_singleton] at hi2
          have hi3 : i = K.length := by omega
          subst hi3
          rw [Nat.sub_self] at hq
          simp only [List.getElem?_cons_zero, Option.some.injEq] at hq
          subst hq
          refine ⟨?_, ?_, ?_, fun k hk => ?_⟩
          · rw [gA_sA, if_neg (by omega), gA_sA, if_pos ⟨rfl, rfl⟩]
          · rw [gA_sA, if_pos ⟨rfl, rfl⟩]
            rfl
          · show fill + 1 ≤ gL M 100
            omega
          · have hk2 : k < 1 := hk
            have : k = 0 := by omega
            subst this
            rw [gA_sA, if_neg (by omega), gA_sA, if_neg (by omega), gA_sA, if_pos ⟨rfl, rfl⟩]
            rfl
      have h := r_unite235 (M := sA (sA (sA M 100 fill (Int32.ofNat (2 + 8 * l3))) 106 K.length (Int32.ofNat fill)) 107 K.length 1) (fill := fill) hs h6 h7 hw ht hPL (fun d hd => by
        rcases List.mem_append.mp hd with h | h
        · exact sK d h
        · rw [List.mem_singleton.mp h]
          intro y hy
          rw [List.mem_singleton.mp hy]
          omega) (by rw [List.length_append]; exact hl) (by
          rw [List.map_append, List.flatten_append, List.length_append]
          show _ + 1 + 2 ≤ _
          omega)
      obtain ⟨M1, h1, h2, h3⟩ := h
      rw [List.length_append] at h1
      rw [i_inc]
      exact ⟨M1, h1, h2, hUF.tr h3⟩
def mvQ (M : MS) (kl i : Nat) : MS := sA (sA M 106 kl (gA M 106 i)) 107 kl (gA M 107 i)
theorem PL_mv {M : MS} {K : List (Nat × List Nat)} {q : Nat × List Nat} {i : Nat} (hK : PL M 0 K) (hq : PLi M i q) : PL (mvQ M K.length i) 0 (K ++ [q]) := by
  have hat : ∀ a t, At M 100 a t → At (mvQ M K.length i) 100 a t := fun a t h => At.sA_ne (by decide) (At.sA_ne (by decide) h)
  intro j p hp
  rw [Nat.zero_add]
  rcases Nat.lt_or_ge j K.length with hi | hi
  · rw [List.getElem?_append_left hi] at hp
    obtain ⟨g1, g2, g3⟩ := hK j p hp
    rw [Nat.zero_add] at g1 g2
    refine ⟨?_, ?_, hat _ _ g3⟩
    · unfold mvQ
      rw [gA_sA, if_neg (by omega), gA_sA, if_neg (by omega)]
      exact g1
    · unfold mvQ
      rw [gA_sA, if_neg (by omega), gA_sA, if_neg (by omega)]
      exact g2
  · rw [List.getElem?_append_right hi] at hp
    have hi2 := (List.getElem?_eq_some_iff.mp hp).1
    simp only [List.length_singleton] at hi2
    have hi3 : j = K.length := by omega
    subst hi3
    rw [Nat.sub_self] at hp
    simp only [List.getElem?_cons_zero, Option.some.injEq] at hp
    subst hp
    refine ⟨?_, ?_, hat _ _ hq.2.2⟩
    · unfold mvQ
      rw [gA_sA, if_neg (by omega), gA_sA, if_pos ⟨rfl, rfl⟩]
      exact hq.1
    · unfold mvQ
      rw [gA_sA, if_pos ⟨rfl, rfl⟩]
      exact hq.2.1
theorem PL_mvR {M : MS} {R : List (Nat × List Nat)} {kl i j : Nat} (hK : PL M j R) (hj : kl < j) : PL (mvQ M kl i) j R := by
  intro m p hp
  obtain ⟨g1, g2, g3⟩ := hK m p hp
  refine ⟨?_, ?_, At.sA_ne (by decide) (At.sA_ne (by decide) g3)⟩
  · unfold mvQ
    rw [gA_sA, if_neg (by omega), gA_sA, if_neg (by omega)]
    exact g1
  · unfold mvQ
    rw [gA_sA, if_neg (by omega), gA_sA, if_neg (by omega)]
    exact g2
theorem r_u106 {M : MS} {k31 : Int32 × Int32 × Int32 × Int32 × Int32 × Int32 × MS → Option (MS × Int32)} {s l3 x kl i : Nat} {l4 : Int32} (hs : s = 4 ∨ s = 5) (h6 : gL M 106 = 4000) (h7 : gL M 107 = 4000) (hi : i < 4000) (hkl : kl ≤ i) (hx : x < 1048576) (hl3 : l3 < 131072) :
    m_Mo_unite_106 k31 (Int32.ofNat s) (if s = 4 then 1 else 0) (Int32.ofNat l3) l4 (Int32.ofNat kl) (Int32.ofNat i) (Int32.ofNat x) M = if x % 8 = 2 then k31 (Int32.ofNat s, (if s = 4 then 1 else 0), Int32.ofNat (opL s l3 (x / 8)), 1, Int32.ofNat kl, Int32.ofNat (i + 1), M) else k31 (Int32.ofNat s, (if s = 4 then 1 else 0), Int32.ofNat l3, l4, Int32.ofNat (kl + 1), Int32.ofNat (i + 1), mvQ M kl i) := by
  unfold m_Mo_unite_106 m_Mo_sort
  rw [cal_same]
  simp only [it_and]
  by_cases h : x % 8 = 2
  · rw [if_neg (by rw [h]; decide), if_pos h, it_shr (by omega), i_inc]
    rcases hs with rfl | rfl
    · rw [if_neg (by decide)]
      rw [i_or_of]
      rfl
    · rw [if_pos (by decide), i_and_of]
      rfl
  · rw [if_pos (by rw [show (2 : Int32) = Int32.ofNat 2 from rfl, i_eq_of (by omega) (by omega)]; exact h), if_neg h]
    rw [ld_of (by omega) (by omega)]
    simp only [Option.bind_some]
    rw [st_of (by omega) (by omega)]
    simp only [Option.bind_some]
    rw [ld_of (by show i < gL M 107; omega) (by omega)]
    simp only [Option.bind_some]
    rw [st_of (by show kl < gL M 107; omega) (by omega)]
    simp only [Option.bind_some]
    rw [gA_sAn (a := 106) (n := 107) (by decide), i_inc, i_inc]
    rfl
theorem opL_lt {s a b : Nat} (ha : a < 131072) (hb : b < 131072) : opL s a b < 131072 := by
  unfold opL
  split
  · exact Nat.or_lt_two_pow (n := 17) ha hb
  · exact Nat.lt_of_le_of_lt Nat.and_le_left ha
theorem wf_hd0 {x : Nat} {r : List Nat} (h : wf (x :: r)) (hx : x % 8 < 3) : r = [] := wf_leaf_eq h (ar_0 hx)
theorem r_unite31 {s fill n : Nat} (hs : s = 4 ∨ s = 5) (hn : n < 4000) (hf2 : fill < 130000) : ∀ (R K : List (Nat × List Nat)) (M : MS) (l3 : Nat) (l4 : Bool) (i F : Nat), gL M 106 = 4000 → gL M 107 = 4000 → gL M 100 = 130000 → gL M 101 = 130000 → gI M 97 13 = Int32.ofNat n → gI M 97 10 = Int32.ofNat fill → PL M 0 K → PL M i R → (∀ d ∈ K, sm d.2 ∧ d.1 + d.2.length ≤ fill) → (∀ d ∈ R, wf d.2 ∧ sm d.2 ∧ d.1 + d.2.length ≤ fill) → K.length + (if l4 = true then 1 else 0) ≤ i → i + R.length = n → l3 < 131072 → (K.map Prod.snd).flatten.length + (R.map Prod.snd).flatten.length + 3 ≤ 130000 → R.length < F →
    ∃ M1, fx (fun (k : Int32 × Int32 × Int32 × Int32 × Int32 × Int32 × MS → Option (MS × Int32)) (i : Int32 × Int32 × Int32 × Int32 × Int32 × Int32 × MS) => m_Mo_unite_31b k i.1 i.2.1 i.2.2.1 i.2.2.2.1 i.2.2.2.2.1 i.2.2.2.2.2.1 i.2.2.2.2.2.2) F (Int32.ofNat s, (if s = 4 then 1 else 0), Int32.ofNat l3, (if l4 = true then 1 else 0), Int32.ofNat K.length, Int32.ofNat i, M) = some (M1, Int32.ofNat (uniL s (R.map Prod.snd) (K.map Prod.snd) l3 l4).length) ∧ At M1 101 0 (uniL s (R.map Prod.snd) (K.map Prod.snd) l3 l4) ∧ UF fill M M1 := by
  intro R
  induction R with
  | nil =>
    intro K M l3 l4 i F h6 h7 hw ht hp hf hK hR cK cR hki hi hl3 hlen hF
    rw [List.length_nil] at hi hF
    cases F with
    | zero => omega
    | succ F =>
      show ∃ M1, m_Mo_unite_31b _ (Int32.ofNat s) (if s = 4 then 1 else 0) (Int32.ofNat l3) (if l4 = true then 1 else 0) (Int32.ofNat K.length) (Int32.ofNat i) M = _ ∧ _
      unfold m_Mo_unite_31b
      rw [if_pos (by rw [hp, i_le_of (by omega) (by omega)]; omega)]
      simp only [List.map_nil, List.flatten_nil, List.length_nil] at hlen
      exact r_unite178 hs h6 h7 hw ht hf hf2 hK (fun d hd => (cK d hd).1) (fun d hd => (cK d hd).2) (by omega) hl3 (by omega)
  | cons q R ih =>
    intro K M l3 l4 i F h6 h7 hw ht hp hf hK hR cK cR hki hi hl3 hlen hF
    rw [List.length_cons] at hi hF
    simp only [List.map_cons, List.flatten_cons, List.length_append] at hlen
    obtain ⟨wq, sq, fq⟩ := cR q List.mem_cons_self
    have hq := hR 0 q rfl
    rw [Nat.add_zero] at hq
    have hR1 : PL M (i + 1) R := fun j p hp => by
      have := hR (j + 1) p (by rw [List.getElem?_cons_succ]; exact hp)
      rw [show i + (j + 1) = i + 1 + j by omega] at this
      exact this
    have cR1 : ∀ d ∈ R, wf d.2 ∧ sm d.2 ∧ d.1 + d.2.length ≤ fill := fun d hd => cR d (List.mem_cons_of_mem _ hd)
    obtain ⟨x, r, hxr⟩ : ∃ x r, q.2 = x :: r := by
      cases hq2 : q.2 with
      | nil => exact absurd hq2 (wf_ne wq)
      | cons x r => exact ⟨x, r, rfl⟩
    have hx : x < 1048576 := sq x (by rw [hxr]; exact List.mem_cons_self)
    have hA := hq.2.2
    have hqL := hA.1
    have hhd : hd q.2 = x := by rw [hxr]; rfl
    have hx0 : x = 0 ↔ q.2 = [0] := by
      constructor
      · intro h
        subst h
        rw [hxr, wf_hd0 (x := 0) (r := r) (by rw [← hxr]; exact wq) (by omega)]
      · intro h
        rw [h] at hhd
        exact hhd.symm
    have hv : gA M 100 q.1 = Int32.ofNat x := by
      rw [hxr] at hA
      exact hA.cons.1
    have hall := r_isAll (M := M) (k := i) (p0 := q.1) (u := q.2) (by omega) h6 h7 hq.1 hq.2.1 hA sq (by omega)
    cases F with
    | zero => omega
    | succ F =>
      -- one more round of the loop from here, in each of the three ways
      have skip := ih K M l3 l4 (i + 1) F h6 h7 hw ht hp hf hK hR1 cK cR1 (by omega) (by omega) hl3 (by omega) (by omega)
      have put := ih (K ++ [q]) (mvQ M K.length i) l3 l4 (i + 1) F h6 h7 hw ht hp hf (PL_mv hK hq) (PL_mvR hR1 (by omega)) (fun d hd => by
        rcases List.mem_append.mp hd with h | h
        · exact cK d h
        · rw [List.mem_singleton.mp h]; exact ⟨sq, fq⟩) cR1 (by rw [List.length_append, List.length_singleton]; omega) (by omega) hl3 (by rw [List.map_append, List.flatten_append, List.length_append]; simp only [List.map_cons, List.map_nil, List.flatten_cons, List.flatten_nil, List.append_nil]; omega) (by omega)
      have cls : x % 8 = 2 → _ := fun hx2 => ih K M (opL s l3 (x / 8)) true (i + 1) F h6 h7 hw ht hp hf hK hR1 cK cR1 (by simp only [if_true]; have : K.length ≤ i := Nat.le_trans (Nat.le_add_right _ _) hki; omega) (by omega) (opL_lt hl3 (by omega)) (by omega) (by omega)
      have hki2 : K.length ≤ i := Nat.le_trans (Nat.le_add_right _ _) hki
      have rest : ¬ q.2 = swS s → ¬ q.2 = neS s → ∃ M1, m_Mo_unite_106 (fx (fun (k : Int32 × Int32 × Int32 × Int32 × Int32 × Int32 × MS → Option (MS × Int32)) (i : Int32 × Int32 × Int32 × Int32 × Int32 × Int32 × MS) => m_Mo_unite_31b k i.1 i.2.1 i.2.2.1 i.2.2.2.1 i.2.2.2.2.1 i.2.2.2.2.2.1 i.2.2.2.2.2.2) F) (Int32.ofNat s) (if s = 4 then 1 else 0) (Int32.ofNat l3) (if l4 = true then 1 else 0) (Int32.ofNat K.length) (Int32.ofNat i) (Int32.ofNat x) M = some (M1, Int32.ofNat (uniL s ((q :: R).map Prod.snd) (K.map Prod.snd) l3 l4).length) ∧ At M1 101 0 (uniL s ((q :: R).map Prod.snd) (K.map Prod.snd) l3 l4) ∧ UF fill M M1 := by
        intro n1 n2
        rw [r_u106 hs h6 h7 (by omega) hki2 hx hl3]
        rw [List.map_cons]
        unfold uniL
        rw [if_neg n1, if_neg n2, hhd]
        by_cases hx2 : x % 8 = 2
        · rw [if_pos hx2, if_pos hx2]
          exact cls hx2
        · rw [if_neg hx2, if_neg hx2]
          obtain ⟨M1, p1, p2, p3⟩ := put
          rw [List.length_append, List.map_append] at p1
          rw [List.map_append] at p2
          exact ⟨M1, p1, p2, (UF.of (((Fr.stA (by decide)).tr (Fr.stA (by decide))))).tr p3⟩
      show ∃ M1, m_Mo_unite_31b _ (Int32.ofNat s) (if s = 4 then 1 else 0) (Int32.ofNat l3) (if l4 = true then 1 else 0) (Int32.ofNat K.length) (Int32.ofNat i) M = _ ∧ _
      unfold m_Mo_unite_31b
      rw [if_neg (by rw [hp, i_le_of (by omega) (by omega)]; omega), ld_of (by omega) (by omega), hq.1]
      simp only [Option.bind_some]
      rw [ld_of (by omega) (by omega), hv]
      simp only [Option.bind_some]
      rcases hs with rfl | rfl
      · rw [if_neg (by decide), hall, cal_same]
        by_cases ha : q.2 = [6, 0]
        · rw [if_neg (by simp [ha])]
          have e : uniL 4 ((q :: R).map Prod.snd) (K.map Prod.snd) l3 l4 = [6, 0] := by
            rw [List.map_cons]
            unfold uniL
            rw [if_pos (show q.2 = swS 4 from ha)]
            rfl
          rw [e]
          unfold m_Mo_unite_67 m_Mo_unite_75
          exact mo_simple ht true
        · rw [if_pos (by simp [ha])]
          unfold m_Mo_unite_82
          rw [if_neg (by decide)]
          by_cases h0 : x = 0
          · rw [if_neg (by rw [h0]; decide), i_inc]
            have e : uniL 4 ((q :: R).map Prod.snd) (K.map Prod.snd) l3 l4 = uniL 4 (R.map Prod.snd) (K.map Prod.snd) l3 l4 := by
              rw [List.map_cons]
              conv => lhs; unfold uniL
              rw [if_neg (show ¬ q.2 = swS 4 from ha), if_pos (show q.2 = neS 4 from hx0.mp h0)]
            rw [e]
            exact skip
          · rw [if_pos (by rw [i_eq, i_of (by omega), i_0]; omega)]
            exact rest ha (fun h => h0 (hx0.mpr h))
      · rw [if_pos (by decide)]
        by_cases h0 : x = 0
        · rw [if_neg (by rw [h0]; decide)]
          have e : uniL 5 ((q :: R).map Prod.snd) (K.map Prod.snd) l3 l4 = [0] := by
            rw [List.map_cons]
            unfold uniL
            rw [if_pos (show q.2 = swS 5 from hx0.mp h0)]
            rfl
          rw [e]
          unfold m_Mo_unite_75
          exact mo_simple ht false
        · rw [if_pos (by rw [i_eq, i_of (by omega), i_0]; omega)]
          unfold m_Mo_unite_82
          rw [if_pos (by decide), hall, cal_same]
          by_cases ha : q.2 = [6, 0]
          · rw [if_neg (by simp [ha]), i_inc]
            have e : uniL 5 ((q :: R).map Prod.snd) (K.map Prod.snd) l3 l4 = uniL 5 (R.map Prod.snd) (K.map Prod.snd) l3 l4 := by
              rw [List.map_cons]
              conv => lhs; unfold uniL
              rw [if_neg (show ¬ q.2 = swS 5 from fun h => h0 (hx0.mpr h)), if_pos (show q.2 = neS 5 from ha)]
            rw [e]
            exact skip
          · rw [if_pos (by simp [ha])]
            exact rest (fun h => h0 (hx0.mpr h)) ha
/-- unite: what OR or AND of the parts is kept as -/
theorem r_unite {M : MS} {s fill : Nat} {Q : List (Nat × List Nat)} (hs : s = 4 ∨ s = 5) (h6 : gL M 106 = 4000) (h7 : gL M 107 = 4000) (hw : gL M 100 = 130000) (ht : gL M 101 = 130000) (hp : gI M 97 13 = Int32.ofNat Q.length) (hn : Q.length < 4000) (hf : gI M 97 10 = Int32.ofNat fill) (hf2 : fill < 130000) (hQ : PL M 0 Q) (cQ : ∀ d ∈ Q, wf d.2 ∧ sm d.2 ∧ d.1 + d.2.length ≤ fill) (hlen : (Q.map Prod.snd).flatten.length + 3 ≤ 130000) :
    ∃ M1, m_Mo_unite (Int32.ofNat s) M = some (M1, Int32.ofNat (uni s (Q.map Prod.snd)).length) ∧ At M1 101 0 (uni s (Q.map Prod.snd)) ∧ UF fill M M1 := by
  have h := r_unite31 hs hn hf2 Q [] M (if s = 4 then 0 else 15) false 0 FU h6 h7 hw ht hp hf (fun i q h => by simp at h) hQ (fun d hd => by cases hd) cQ (by simp) (Nat.zero_add _) (by split <;> omega) (by simp only [List.map_nil, List.flatten_nil, List.length_nil]; omega) (by unfold FU; omega)
  rw [List.map_nil, uniL_uni] at h
  obtain ⟨M1, h1, h2, h3⟩ := h
  refine ⟨M1, ?_, h2, h3⟩
  unfold m_Mo_unite
  rcases hs with rfl | rfl
  · rw [if_neg (by decide)]
    unfold m_Mo_unite_10
    rw [if_neg (by decide)]
    exact h1
  · rw [if_pos (by decide)]
    unfold m_Mo_unite_10
    rw [if_pos (by decide)]
    exact h1
