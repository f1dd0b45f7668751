/-! STEP 2, the class: derivative, whole -/
/-- the row of what is pending -/
def RP (M : MS) : Prop := (∃ l, RW M 19 20 l) ∧ gL M 20 ≤ 30000
theorem c_derivative {g : TG} {M : MS} {x c : Nat} (h : TI g M) (hr : RO M) (hG : GD M) (hP : RP M) (hx : x < tU g) (hc : c < 4) (hlen : (ttx g x).length ≤ 300) (hU : tU g + ct cb (ttx g x) < 131072) (hK : tKU g + ct kb (ttx g x) ≤ 500000) :
    ∃ M1 g1 d, m_Terms_derivative (Int32.ofNat x) (Int32.ofNat c) M = some (M1, Int32.ofNat d) ∧ TI g1 M1 ∧ TE g g1 ∧ RO M1 ∧ RP M1 ∧ d < tU g1 ∧ ttx g1 d = DS c (ttx g x) ∧ tU g1 ≤ tU g + ct cb (ttx g x) ∧ tKU g1 ≤ tKU g + ct kb (ttx g x) ∧ FC RNd FNd M M1 := by
  have hlt := h.2.1.lt
  obtain ⟨⟨l0, r0⟩, h20⟩ := hP
  obtain ⟨c1, c2, c3⟩ := c_clear isR19 r0
  obtain ⟨M1, a1, a2, a3, a4⟩ := c_add (x := x) isR19 c2 (hG.fc c3) (by simp)
  have hf : FC [20] [(19, 1)] M M1 := c3.tr a3
  have hI1 := h.row isR19 hf
  have e20 : gL (sI M 19 1 0) 20 = gL M 20 := rfl
  rw [List.length_nil] at a4
  obtain ⟨M2, g2, n, b1, b2, b3, b4, b5, b6, b7, b8, b9, b10, b11, b12⟩ := PRd_all hc x g M1 [] (Int32.ofNat x) 0 FU hI1 (hr.r19 hf) (hG.fc hf) a2 hx hlen hU hK (by omega) (by simp; omega) (by omega) (by unfold FU; omega)
  obtain ⟨d, d1, d2, d3⟩ := b7 x (List.mem_singleton.mpr rfl)
  have hx2 : x < tU g2 := Nat.lt_of_lt_of_le hx b4.1
  have hlt2 := b3.2.1.lt
  obtain ⟨-, ⟨n3, n4⟩, ⟨o4, o5, o6, o7, o8, o9, o10, o11, o12, o14⟩, -, -⟩ := b3.2.1
  refine ⟨M2, g2, d, ?_, b3, b4, b5, ⟨⟨_, b6⟩, b11⟩, d1, by rw [d3, b4.tx hx], b8, b9, (hf.mono (by decide) (by decide)).tr b10⟩
  have hend : dvL (FU - n) (Int32.ofNat x, Int32.ofNat c, Int32.ofNat (0 + n), M2) = some (M2, Int32.ofNat d) := by
    obtain ⟨F', hF'⟩ : ∃ F', FU - n = F' + 1 := ⟨FU - n - 1, by unfold FU; omega⟩
    rw [hF', dvL_succ]
    generalize dvL F' = k
    unfold m_Terms_derivative_17b m_Terms_derivative_121
    rw [if_neg (by rw [show (1000000 : Int32) = Int32.ofNat 1000000 from rfl, i_le_of (by omega) (by omega)]; omega), c_size isR19 b6, cal_same, if_pos (by show Int32.ofNat 0 ≤ 0; decide)]
    rw [show Int32.ofNat x * 4 = Int32.ofNat (4 * x) from by rw [Nat.mul_comm]; exact i_mul_of _ 4, i_add_of, ld_of (by show _ < gL M2 12; omega) (by omega), d2, Option.bind_some]
  unfold m_Terms_derivative
  rw [c1, cal_sI, cal_some a1 a3.le.1 a3.le.2]
  exact b2.trans hend
/-! what a derivative costs -/
theorem ct_eq {g : TG} (h : TB g) (f : List Nat → Nat) {i : Nat} (hi : i < tU g) : ct f (ttx g i) = f (ttx g i) + ((tkd g i).map (fun k => ct f (ttx g k))).sum := by
  refine Nat.le_antisymm ?_ (ct_ids h f hi)
  have hkids : ∀ k ∈ tkd g i, k < tU g := fun k hk2 => Nat.lt_trans (h.kids hi k hk2) hi
  have hw : ∀ p ∈ (tkd g i).map (ttx g), wf p := fun p hp => by
    obtain ⟨k, hk, rfl⟩ := List.mem_map.mp hp
    exact h.wf (hkids k hk)
  have hmap : (tkd g i).map (fun k => ct f (ttx g k)) = ((tkd g i).map (ttx g)).map (ct f) := by rw [List.map_map]; rfl
  rw [hmap]
  by_cases h18 : 18 ≤ i
  · obtain ⟨h1, h2, h3⟩ := h.2.2.2.2.1 i h18 hi
    by_cases hc : tso g i = 4 ∨ tso g i = 5
    · have hsr : SrN (tkd g i) := by
        rcases h1 with q | q | q | q
        · omega
        · exact q.2.2
        · omega
        · omega
      have hnd := h.mapnd hkids hsr
      have e : ttx g i = (tso g i + 8 * ((tkd g i).map (ttx g)).length) :: (srt ((tkd g i).map (ttx g))).flatten := by
        rw [h3]
        unfold txF
        rw [if_pos hc]
      have e2 := ct_mk (f := f) (x := tso g i + 8 * ((tkd g i).map (ttx g)).length) (ps := srt ((tkd g i).map (ttx g))) (by rw [ar_or hc, srt_len_nodup hnd]) (fun p hp => hw p (mem_srt.mp hp))
      rw [← e] at e2
      rw [e2, sum_perm ((srt_perm_of hnd).map (ct f))]
      exact Nat.le_refl _
    · have e : ttx g i = tso g i :: ((tkd g i).map (ttx g)).flatten := by
        rw [h3]
        unfold txF
        rw [if_neg hc]
      have e2 := ct_mk (f := f) (x := tso g i) (ps := (tkd g i).map (ttx g)) (by rw [h1.ar hc, List.length_map]) hw
      rw [← e] at e2
      rw [e2]
      exact Nat.le_refl _
  · by_cases h17 : i = 17
    · subst h17
      have e : ttx g 17 = 6 :: ((tkd g 17).map (ttx g)).flatten := by rw [h.t17, h.2.2.2.1.2.1, List.map_cons, List.map_nil, h.t0]; rfl
      have e2 := ct_mk (f := f) (x := 6) (ps := (tkd g 17).map (ttx g)) (by rw [List.length_map, h.2.2.2.1.2.1]; rfl) hw
      rw [← e] at e2
      rw [e2]
      exact Nat.le_refl _
    · have hleaf : ∃ x, ttx g i = [x] ∧ ar x = 0 := by
        by_cases h16 : i = 16
        · exact ⟨1, by rw [h16]; exact h.t16, rfl⟩
        · have := (h.2.1 i (by omega)).2.2
          unfold ltT at this
          by_cases h0 : i = 0
          · rw [if_pos h0] at this; exact ⟨0, this, rfl⟩
          · rw [if_neg h0, if_neg (by omega)] at this; exact ⟨2 + 8 * i, this, ar_cl i⟩
      obtain ⟨x, e1, e2⟩ := hleaf
      have e3 := ct_mk (f := f) (x := x) (ps := []) e2 (fun p hp => by cases hp)
      have e4 : x :: ([] : List (List Nat)).flatten = [x] := rfl
      rw [e4] at e3
      rw [e1, e3]
      simp
/-- at most n*n/3 + 3n terms; where it is no STAR, n*n/3 + 8n/3 + 4/3 -/
theorem ct_cb {g : TG} (h : TB g) : ∀ i, i < tU g → 3 * ct cb (ttx g i) ≤ (ttx g i).length * (ttx g i).length + 9 * (ttx g i).length ∧ (tso g i ≠ 7 → 3 * ct cb (ttx g i) ≤ (ttx g i).length * (ttx g i).length + 8 * (ttx g i).length + 4) := by
  have sq : ∀ a b : Nat, (a + b) * (a + b) = a * a + b * b + 2 * (a * b) := fun a b => by
    simp only [Nat.mul_add, Nat.add_mul]
    have := Nat.mul_comm a b
    omega
  intro i
  induction i using Nat.strongRecOn with
  | ind i ih =>
    intro hi
    have hso := h.so hi
    have hso8 : tso g i < 8 := by
      rw [← hso]
      exact Nat.mod_lt _ (by omega)
    have hil : 1 ≤ (ttx g i).length := List.length_pos_iff.mpr (wf_ne (h.wf hi))
    have e := ct_eq h cb hi
    by_cases c3 : tso g i = 3
    · obtain ⟨p, q, e1, e2, e3, e4, e5, e6⟩ := h.cat2 hi c3
      have hpl : 1 ≤ (ttx g p).length := List.length_pos_iff.mpr (wf_ne (h.wf (by omega)))
      have hql : 1 ≤ (ttx g q).length := List.length_pos_iff.mpr (wf_ne (h.wf (by omega)))
      have hpts : pts (ttx g i) = [ttx g p, ttx g q] := by
        rw [e5]
        have := pts_mk (x := 3) (ps := [ttx g p, ttx g q]) rfl (fun t ht => by
          simp only [List.mem_cons, List.not_mem_nil, or_false] at ht
          rcases ht with rfl | rfl
          · exact h.wf (by omega)
          · exact h.wf (by omega))
        simpa using this
      have hcb : cb (ttx g i) = (ttx g p).length + 2 := by
        unfold cb
        rw [hso, if_pos c3, hpts]
        rfl
      have hl : (ttx g i).length = (ttx g p).length + (ttx g q).length + 1 := by rw [e5, List.length_cons, List.length_append]
      obtain ⟨p1, -⟩ := ih p e2 (by omega)
      obtain ⟨q1, -⟩ := ih q e3 (by omega)
      rw [hcb, e1] at e
      simp only [List.map_cons, List.map_nil, List.sum_cons, List.sum_nil, Nat.add_zero] at e
      rw [hl, e]
      generalize (ttx g p).length = a at *
      generalize (ttx g q).length = b at *
      have s1 := sq (a + b) 1
      have s2 := sq a b
      have s3 : a ≤ a * b := Nat.le_mul_of_pos_right a (by omega)
      have s4 : b ≤ a * b := Nat.le_mul_of_pos_left b (by omega)
      constructor
      · omega
      · intro _; omega
    · by_cases c7 : tso g i = 7
      · obtain ⟨a, e1, e2, e3⟩ := h.one6 hi (Or.inr rfl) c7
        have h18 : 18 ≤ i := by
          refine Classical.byContradiction (fun hq => ?_)
          by_cases h17 : i = 17
          · rw [h17, h.2.2.2.1.1] at c7; omega
          · by_cases h16 : i = 16
            · rw [h16, h.2.2.1.1] at c7; omega
            · rw [(h.2.1 i (by omega)).1] at c7
              split at c7 <;> omega
        have hn7 : tso g a ≠ 7 := by
          obtain ⟨z1, -, -⟩ := h.2.2.2.2.1 i h18 hi
          rw [c7, e1] at z1
          rcases z1 with q | q | q | ⟨-, a', q1, q2⟩
          · omega
          · omega
          · omega
          · simp only [List.cons.injEq, and_true] at q1
            rw [q1]; exact q2
        have hcb : cb (ttx g i) = (ttx g a).length + 1 := by
          unfold cb
          rw [hso, if_neg (by omega), if_pos c7, e3, List.length_cons]
        obtain ⟨-, p2⟩ := ih a e2 (by omega)
        have p3 := p2 hn7
        have hl : (ttx g i).length = (ttx g a).length + 1 := by rw [e3, List.length_cons]
        rw [hcb, e1] at e
        simp only [List.map_cons, List.map_nil, List.sum_cons, List.sum_nil, Nat.add_zero] at e
        rw [hl, e]
        generalize (ttx g a).length = m at *
        have s1 := sq m 1
        refine ⟨by omega, fun q => absurd c7 q⟩
      · have hcb : cb (ttx g i) = 1 := by
          unfold cb
          rw [hso, if_neg c3, if_neg c7]
        have hks := kid_sum h hi
        have hsum : ∀ l : List Nat, (∀ k ∈ l, k < i) → 3 * (l.map (fun k => ct cb (ttx g k))).sum ≤ (l.map (fun k => (ttx g k).length)).sum * (l.map (fun k => (ttx g k).length)).sum + 9 * (l.map (fun k => (ttx g k).length)).sum := by
          intro l
          induction l with
          | nil => intro _; simp
          | cons y l ihl =>
            intro hl2
            have h1 := ihl (fun k hk => hl2 k (List.mem_cons_of_mem _ hk))
            obtain ⟨h2, -⟩ := ih y (hl2 y List.mem_cons_self) (by have := hl2 y List.mem_cons_self; omega)
            rw [List.map_cons, List.sum_cons, List.map_cons, List.sum_cons]
            generalize (l.map (fun k => (ttx g k).length)).sum = b at *
            generalize (ttx g y).length = a at *
            have := sq a b
            omega
        have h1 := hsum (tkd g i) (h.kids hi)
        rw [e, hcb]
        generalize ((tkd g i).map (fun k => (ttx g k).length)).sum = b at *
        generalize ((tkd g i).map (fun k => ct cb (ttx g k))).sum = z at *
        have hsq : (b + 1) * (b + 1) ≤ (ttx g i).length * (ttx g i).length := Nat.mul_le_mul hks hks
        have s1 := sq b 1
        constructor
        · omega
        · intro _; omega
theorem ct_kb {g : TG} (h : TB g) : ∀ i, i < tU g → 2 * ct kb (ttx g i) ≤ 4 * ct cb (ttx g i) + 3 * ((ttx g i).length * (ttx g i).length) + 7 * (ttx g i).length := by
  have sq : ∀ a b : Nat, (a + b) * (a + b) = a * a + b * b + 2 * (a * b) := fun a b => by
    simp only [Nat.mul_add, Nat.add_mul]
    have := Nat.mul_comm a b
    omega
  intro i
  induction i using Nat.strongRecOn with
  | ind i ih =>
    intro hi
    have e := ct_eq h cb hi
    have e2 := ct_eq h kb hi
    have hks := kid_sum h hi
    have hsum : ∀ l : List Nat, (∀ k ∈ l, k < i) → 2 * (l.map (fun k => ct kb (ttx g k))).sum ≤ 4 * (l.map (fun k => ct cb (ttx g k))).sum + 3 * ((l.map (fun k => (ttx g k).length)).sum * (l.map (fun k => (ttx g k).length)).sum) + 7 * (l.map (fun k => (ttx g k).length)).sum := by
      intro l
      induction l with
      | nil => intro _; simp
      | cons y l ihl =>
        intro hl2
        have h1 := ihl (fun k hk => hl2 k (List.mem_cons_of_mem _ hk))
        have h2 := ih y (hl2 y List.mem_cons_self) (by have := hl2 y List.mem_cons_self; omega)
        rw [List.map_cons, List.sum_cons, List.map_cons, List.sum_cons, List.map_cons, List.sum_cons]
        generalize (l.map (fun k => (ttx g k).length)).sum = b at *
        generalize (ttx g y).length = a at *
        have := sq a b
        omega
    have h1 := hsum (tkd g i) (h.kids hi)
    have hkb : kb (ttx g i) = 2 * cb (ttx g i) + 3 * (ttx g i).length + 2 := rfl
    rw [e, e2, hkb]
    generalize ((tkd g i).map (fun k => (ttx g k).length)).sum = b at *
    generalize ((tkd g i).map (fun k => ct cb (ttx g k))).sum = z at *
    generalize ((tkd g i).map (fun k => ct kb (ttx g k))).sum = w at *
    obtain ⟨d, hd'⟩ : ∃ d, (ttx g i).length = b + 1 + d := ⟨(ttx g i).length - b - 1, by omega⟩
    rw [hd']
    have s1 := sq (b + 1) d
    have s2 := sq b 1
    have s3 : d * d + 2 * ((b + 1) * d) ≥ 0 := Nat.zero_le _
    have s4 : d ≤ (b + 1) * d := Nat.le_mul_of_pos_left d (by omega)
    omega
theorem ct_300 {g : TG} (h : TB g) {i : Nat} (hi : i < tU g) (hl : (ttx g i).length ≤ 300) : ct cb (ttx g i) ≤ 30900 ∧ ct kb (ttx g i) ≤ 198000 := by
  have h1 := (ct_cb h i hi).1
  have h2 := ct_kb h i hi
  have h3 : (ttx g i).length * (ttx g i).length ≤ 300 * 300 := Nat.mul_le_mul hl hl
  omega
