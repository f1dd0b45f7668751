/-! STEP 2, the class: a term's derivative out of its kids' -/
/-- nodes and kids that a combining may make -/
def cb (t : List Nat) : Nat := if hd t % 8 = 3 then ((pts t).headD []).length + 2 else if hd t % 8 = 7 then t.length else 1
def kb (t : List Nat) : Nat := 2 * cb t + 3 * t.length + 2
def KA (g : TG) (M : MS) (c k : Nat) : Prop := ∃ d, d < tU g ∧ gA M 12 (4 * k + c) = Int32.ofNat d ∧ ttx g d = DS c (ttx g k)
theorem c_kidAfter {g : TG} {M : MS} {i j c d : Nat} (h : TI g M) (hi : i < tU g) (hj : j < (tkd g i).length) (hc : c < 4) (hd' : gA M 12 (4 * (tkd g i).getD j 0 + c) = Int32.ofNat d) : m_Terms_kidAfter (Int32.ofNat i) (Int32.ofNat j) (Int32.ofNat c) M = some (M, Int32.ofNat d) := by
  have hlt := h.2.1.lt
  obtain ⟨-, ⟨m3, m4⟩, ⟨l4, l5, l6, l7, l8, l9, l10, l11, l12, l14⟩, -, -⟩ := h.2.1
  have hk : (tkd g i).getD j 0 < tU g := by
    have hm : (tkd g i).getD j 0 ∈ tkd g i := by
      rw [List.getD_eq_getElem?_getD, List.getElem?_eq_getElem hj, Option.getD_some]
      exact List.getElem_mem hj
    exact Nat.lt_trans (h.1.kids hi _ hm) hi
  unfold m_Terms_kidAfter
  rw [c_kid h hi hj, cal_same, show Int32.ofNat ((tkd g i).getD j 0) * 4 = Int32.ofNat (4 * (tkd g i).getD j 0) from by rw [Nat.mul_comm]; exact i_mul_of _ 4, i_add_of, ld_of (by show _ < gL M 12; omega) (by omega), hd', Option.bind_some]
theorem TB.one6 {g : TG} (h : TB g) {i s : Nat} (hi : i < tU g) (hs : s = 6 ∨ s = 7) (hsi : tso g i = s) : ∃ a, tkd g i = [a] ∧ a < i ∧ ttx g i = s :: ttx g a := by
  have he := h.eq hi (by omega)
  have hk : ∃ a, tkd g i = [a] := by
    by_cases h18 : 18 ≤ i
    · obtain ⟨b1, -, -⟩ := h.2.2.2.2.1 i h18 hi
      rw [hsi] at b1
      rcases b1 with q | q | ⟨-, a, q, -⟩ | ⟨-, a, q, -⟩
      · omega
      · omega
      · exact ⟨a, q⟩
      · exact ⟨a, q⟩
    · by_cases h17 : i = 17
      · rw [h17, h.2.2.2.1.2.1]; exact ⟨0, rfl⟩
      · by_cases h16 : i = 16
        · rw [h16, h.2.2.1.1] at hsi; omega
        · rw [(h.2.1 i (by omega)).1] at hsi
          split at hsi <;> omega
  obtain ⟨a, ha⟩ := hk
  refine ⟨a, ha, h.kids hi a (by rw [ha]; simp), ?_⟩
  rw [he, hsi, ha]
  unfold txF
  rw [if_neg (by omega)]
  simp
theorem DS_le {c : Nat} {t : List Nat} (h : wf t) (hl : t.length ≤ 300) : (DS c t).length ≤ 45450 := by
  have h1 := DS_len (c := c) t h
  have h2 : t.length * (t.length + 3) ≤ 300 * 303 := Nat.mul_le_mul hl (by omega)
  omega
/-- OR and AND: the kids' derivatives are gathered -/
theorem c_comb142 {g : TG} {s i c : Nat} (hs : s = 4 ∨ s = 5) (hc : c < 4) (hi : i < tU g) (hsi : tso g i = s) : ∀ (v u T : List Nat) (M : MS) (F : Nat), tkd g i = u ++ v → TI g M → RO M → GD M → GS M s T → (∀ k ∈ T, k < tU g) → (∀ k ∈ tkd g i, KA g M c k) → T.length + 2 * (v.map (fun k => (ttx g k).length)).sum < 90000 → v.length < F →
    ∃ M1 T1, fx (fun (k : Int32 × Int32 × Int32 × MS → Option (MS × Int32)) (i : Int32 × Int32 × Int32 × MS) => m_Terms_combined_142b k i.1 i.2.1 i.2.2.1 i.2.2.2) F (Int32.ofNat i, Int32.ofNat c, Int32.ofNat u.length, M) = m_Terms_combined_177 (Int32.ofNat i) M1 ∧ GS M1 s (T ++ T1) ∧ (T1.map (ttx g)).Perm ((v.map (fun k => pt s (DS c (ttx g k)))).flatten) ∧ (∀ k ∈ T1, k < tU g) ∧ T1.length ≤ 2 * (v.map (fun k => (ttx g k).length)).sum ∧ TI g M1 ∧ RO M1 ∧ FC [23] FGa M M1 := by
  intro v
  induction v with
  | nil =>
    intro u T M F e hI hr hG hS hT hK hl hF
    rw [List.append_nil] at e
    have hlt := hI.2.1.lt
    obtain ⟨-, ⟨m3, m4⟩, ⟨l4, l5, l6, l7, -⟩, -, mi⟩ := hI.2.1
    obtain ⟨a3, -, -, -, a7, a8, -⟩ := mi i hi
    cases F with
    | zero => simp at hF
    | succ F =>
      refine ⟨M, [], ?_, by rw [List.append_nil]; exact hS, List.Perm.refl _, (fun k hk => by cases hk), by simp, hI, hr, FC.rf⟩
      have gen : ∀ k, m_Terms_combined_142b k (Int32.ofNat i) (Int32.ofNat c) (Int32.ofNat u.length) M = m_Terms_combined_177 (Int32.ofNat i) M := by
        intro k
        unfold m_Terms_combined_142b
        rw [ld_of (by omega) (by omega), a7, Option.bind_some, e, if_pos (Int32.le_refl _)]
      exact gen _
  | cons x v ih =>
    intro u T M F e hI hr hG hS hT hK hl hF
    rw [List.length_cons] at hF
    rw [List.map_cons, List.sum_cons] at hl
    have hlt := hI.2.1.lt
    obtain ⟨-, ⟨m3, m4⟩, ⟨l4, l5, l6, l7, -⟩, -, mi⟩ := hI.2.1
    obtain ⟨a3, -, -, -, a7, a8, -⟩ := mi i hi
    have hol : (tkd g i).length = u.length + (v.length + 1) := by rw [e, List.length_append, List.length_cons]
    have gx : (tkd g i).getD u.length 0 = x := by rw [e]; simp
    have hxm : x ∈ tkd g i := by rw [e]; simp
    have hxU : x < tU g := Nat.lt_trans (hI.1.kids hi x hxm) hi
    obtain ⟨d, d1, d2, d3⟩ := hK x hxm
    have hkp : (kdP g s d).length ≤ 2 * (ttx g x).length := by
      have h1 := (hI.1.ptP hs d1).length_eq
      rw [List.length_map] at h1
      rw [h1, d3]
      exact pt_DS_cnt hs (hI.1.wf hxU) (hI.1.pr hxU)
    obtain ⟨M2, t1, t2, t3, t4, t5⟩ := c_gather (T := T) hI hs hS hG d1 hT (by omega)
    have hr2 := hr.ga t4 t2.2.2.2 (by have := hr.2.2.2.2.2.1; omega)
    cases F with
    | zero => omega
    | succ F =>
      obtain ⟨M3, T1, b1, b2, b3, b4, b5, b6, b7, b8⟩ := ih (u ++ [x]) (T ++ kdP g s d) M2 F (by rw [e, List.append_assoc]; rfl) t3 hr2 (hG.fc t4) t2 (fun k hk => by
        rcases List.mem_append.mp hk with q | q
        · exact hT k q
        · exact kdP_lt hI.1 d1 k q) (fun k hk => by
        obtain ⟨d', q1, q2, q3⟩ := hK k hk
        exact ⟨d', q1, by rw [t4.ga (by decide)]; exact q2, q3⟩) (by rw [List.length_append]; omega) (by omega)
      refine ⟨M3, kdP g s d ++ T1, ?_, by rw [← List.append_assoc]; exact b2, ?_, fun k hk => ?_, ?_, b6, b7, t4.tr b8⟩
      · refine Eq.trans ?_ b1
        have gen : ∀ k, m_Terms_combined_142b k (Int32.ofNat i) (Int32.ofNat c) (Int32.ofNat u.length) M = k (Int32.ofNat i, Int32.ofNat c, Int32.ofNat (u ++ [x]).length, M2) := by
          intro k
          have hka := c_kidAfter (j := u.length) hI hi (by omega) hc (by rw [gx]; exact d2)
          have t1' : m_Terms_gather (Int32.ofNat (tso g i)) (Int32.ofNat d) M = some (M2, ()) := by rw [hsi]; exact t1
          unfold m_Terms_combined_142b
          rw [ld_of (by omega) (by omega), a7, Option.bind_some, if_neg (by rw [i_le_of (by omega) (by omega)]; omega), ld_of (by omega) (by omega), a3, Option.bind_some, hka, cal_same, cal_some t1' t4.le.1 t4.le.2, i_inc, List.length_append, List.length_singleton]
        exact gen _
      · rw [List.map_append, List.map_cons, List.flatten_cons, ← d3]
        exact (hI.1.ptP hs d1).append b3
      · rcases List.mem_append.mp hk with q | q
        · exact kdP_lt hI.1 d1 k q
        · exact b4 k q
      · rw [List.length_append, List.map_cons, List.sum_cons]
        omega
/-- combined: the derivative, where the kids' are there -/
theorem c_combined {g : TG} {M : MS} {i c : Nat} (h : TI g M) (hr : RO M) (hG : GD M) (hi : i < tU g) (hc : c < 4) (hlen : (ttx g i).length ≤ 300)
    (hk : ∀ j, j < (tkd g i).length → (tso g i = 3 → j = 1 → NS (ttx g ((tkd g i).getD 0 0)) = true) → KA g M c ((tkd g i).getD j 0)) (hsp : (tso g i = 3 ∨ tso g i = 7) → ∀ d, d < tU g → ttx g d = DS c (ttx g ((tkd g i).getD 0 0)) → spn g d ≤ (ttx g ((tkd g i).getD 0 0)).length + 1) (hU : tU g + cb (ttx g i) < 131072) (hK : tKU g + kb (ttx g i) ≤ 500000) :
    NR g M (DS c (ttx g i)) (cb (ttx g i)) (kb (ttx g i)) (m_Terms_combined (Int32.ofNat i) (Int32.ofNat c) M) := by
  have hlt := h.2.1.lt
  have hU18 := h.1.1
  have hso := h.1.so hi
  have hso8 : tso g i < 8 := by
    rw [← hso]
    exact Nat.mod_lt _ (by omega)
  obtain ⟨-, ⟨m3, m4⟩, ⟨l4, l5, l6, l7, -⟩, -, mi⟩ := h.2.1
  obtain ⟨a3, -, a5, -, a7, -, -⟩ := mi i hi
  have hil : 1 ≤ (ttx g i).length := List.length_pos_iff.mpr (wf_ne (h.1.wf hi))
  have e8 : ∀ n : Nat, n < 8 → (Int32.ofNat (tso g i) = Int32.ofNat n ↔ tso g i = n) := fun n hn => i_eq_of (by omega) (by omega)
  unfold m_Terms_combined
  rw [ld_of (by omega) (by omega), a3, Option.bind_some]
  rw [show (3 : Int32) = Int32.ofNat 3 from rfl, show (5 : Int32) = Int32.ofNat 5 from rfl, show (6 : Int32) = Int32.ofNat 6 from rfl, show (7 : Int32) = Int32.ofNat 7 from rfl]
  by_cases c2 : tso g i = 2
  · have hcl := (h.1.so2 hi).mp c2
    have htx := h.1.tcl hcl
    rw [if_pos (by rw [c2]; rfl), it_shr_c (by omega) hc, show (1 : Int32) = Int32.ofNat 1 from rfl, i_and_of, Nat.and_one_is_mod]
    have hq : i / 2 ^ c % 2 < 2 := Nat.mod_lt _ (by omega)
    have hDS := DS_leaf (c := c) (x := 2 + 8 * i) (by omega)
    rw [← htx, show (2 + 8 * i) % 8 = 2 by omega, show (2 + 8 * i) / 8 = i by omega] at hDS
    by_cases hb : i / 2 ^ c % 2 = 1
    · rw [if_pos ⟨rfl, hb⟩] at hDS
      rw [if_neg (by rw [hb]; simp), hDS]
      exact NR.here (i := 16) h hr (by omega) h.1.t16
    · rw [if_neg (fun q => hb q.2)] at hDS
      rw [if_pos (by rw [i_eq_of (by omega) (by omega)]; exact hb), hDS]
      exact NR.here (i := 0) h hr (by omega) h.1.t0
  rw [if_neg (show ¬ Int32.ofNat (tso g i) = (2 : Int32) from fun q => c2 ((e8 2 (by omega)).mp q))]
  by_cases c3 : tso g i = 3
  · rw [if_pos ((e8 3 (by omega)).mpr c3)]
    obtain ⟨p, q, e1, e2, e3, e4, e5, e6⟩ := h.1.cat2 hi c3
    have hg0 : (tkd g i).getD 0 0 = p := by rw [e1]; rfl
    have hg1 : (tkd g i).getD 1 0 = q := by rw [e1]; rfl
    have hpU : p < tU g := by omega
    have hqU : q < tU g := by omega
    have wp := h.1.wf hpU
    have wq := h.1.wf hqU
    have pp := h.1.pr hpU
    have pq := h.1.pr hqU
    have hl2 := hlen
    rw [e5, List.length_cons, List.length_append] at hl2
    have hpl : 1 ≤ (ttx g p).length := List.length_pos_iff.mpr (wf_ne wp)
    have hql : 1 ≤ (ttx g q).length := List.length_pos_iff.mpr (wf_ne wq)
    have hpts : pts (ttx g i) = [ttx g p, ttx g q] := by
      rw [e5]
      have := pts_mk (x := 3) (ps := [ttx g p, ttx g q]) rfl (fun t ht => by
        simp only [List.mem_cons, List.not_mem_nil, or_false] at ht
        rcases ht with rfl | rfl
        · exact wp
        · exact wq)
      simpa using this
    have hcb : cb (ttx g i) = (ttx g p).length + 2 := by
      unfold cb
      rw [hso, if_pos c3, hpts]
      rfl
    have hkb : kb (ttx g i) = 2 * ((ttx g p).length + 2) + 3 * (ttx g i).length + 2 := by unfold kb; rw [hcb]
    have hDS := DS_cat (c := c) wp wq (x := 3) rfl
    rw [← e5] at hDS
    obtain ⟨d0, q1, q2, q3⟩ := hk 0 (by rw [e1]; simp) (fun _ hh => by omega)
    rw [hg0] at q2 q3
    have hsp0 := hsp (Or.inl c3) d0 q1 (by rw [hg0]; exact q3)
    rw [hg0] at hsp0
    have hka0 := c_kidAfter (j := 0) h hi (by rw [e1]; simp) hc (by rw [hg0]; exact q2)
    have hka0' : m_Terms_kidAfter (Int32.ofNat i) (0 : Int32) (Int32.ofNat c) M = some (M, Int32.ofNat d0) := hka0
    have hk1 := c_kid (j := 1) h hi (by rw [e1]; simp)
    rw [hg1] at hk1
    have hk1' : m_Terms_kid (Int32.ofNat i) (1 : Int32) M = some (M, Int32.ofNat q) := hk1
    have hDp := DS_le (c := c) wp (by omega)
    have hDq := DS_le (c := c) wq (by omega)
    rw [hcb] at hU ⊢
    rw [hkb] at hK ⊢
    have hil2 : (ttx g i).length = (ttx g p).length + (ttx g q).length + 1 := by rw [e5, List.length_cons, List.length_append]
    obtain ⟨M1, g1, j, f1, f2, f3, f4, f5, f6, f7, f8, f9, f10⟩ := c_cat h hr hG q1 hqU (by rw [q3]; omega) (by omega) (by omega) (by omega)
    rw [q3] at f5
    rw [hka0', cal_same, hk1', cal_same, cal_some f1 f8.le.1 f8.le.2]
    obtain ⟨x1, x2, x3, x4⟩ := f3.2.2 i hi
    have hi1 : i < tU g1 := Nat.lt_of_lt_of_le hi f3.1
    have hk0 := c_kid (j := 0) f2 hi1 (by rw [x2, e1]; simp)
    rw [x2, hg0] at hk0
    have hk0' : m_Terms_kid (Int32.ofNat i) (0 : Int32) M1 = some (M1, Int32.ofNat p) := hk0
    have hp1 : p < tU g1 := by omega
    obtain ⟨-, ⟨n3, n4⟩, ⟨p4, p5, -⟩, -, mi1⟩ := f2.2.1
    have hnp := (mi1 p hp1).2.2.1
    rw [f3.tx hpU] at hnp
    rw [hk0', cal_same, ld_of (by show _ < gL M1 5; omega) (by omega), hnp, Option.bind_some]
    cases hns : NS (ttx g p) with
    | false =>
      rw [if_neg (by decide)]
      rw [hns] at hDS
      simp only [Bool.false_eq_true, if_false] at hDS
      exact ⟨M1, g1, j, rfl, f2, f3, f4, by rw [f5, hDS], by omega, by omega, f8, f9, f10⟩
    | true =>
      rw [if_pos (by decide)]
      rw [hns] at hDS
      simp only [if_true] at hDS
      obtain ⟨d1, r1, r2, r3⟩ := hk 1 (by rw [e1]; simp) (fun _ _ => by rw [hg0]; exact hns)
      rw [hg1] at r2 r3
      have hd1 : d1 < tU g1 := Nat.lt_of_lt_of_le r1 f3.1
      have hq1' : q < tU g1 := by omega
      have tj : ttx g1 j = catS (DS c (ttx g p)) (ttx g q) := f5
      have td : ttx g1 d1 = DS c (ttx g q) := by rw [f3.tx r1, r3]
      have hcatl := catS_len (wf_DS (c := c) _ wp) wq
      have kj : (kdP g1 4 j).length ≤ 2 * (ttx g p).length + (ttx g q).length := by
        have h1 := (f2.1.ptP (Or.inl rfl) f4).length_eq
        rw [List.length_map] at h1
        rw [h1, tj]
        exact pt_catS (k := 0) (Or.inl rfl) (wf_DS _ wp) (Nat.le_trans (pt_DS_cnt (Or.inl rfl) wp pp) (by omega)) (Nat.le_trans (pt_cnt wq) (by omega)) (by omega)
      have kd1 : (kdP g1 4 d1).length ≤ 2 * (ttx g q).length := by
        have h1 := (f2.1.ptP (Or.inl rfl) hd1).length_eq
        rw [List.length_map] at h1
        rw [h1, td]
        exact pt_DS_cnt (Or.inl rfl) wq pq
      have flj := kdP_flat f2.1 (Or.inl rfl : (4 : Nat) = 4 ∨ (4 : Nat) = 5) f4
      have fld := kdP_flat f2.1 (Or.inl rfl : (4 : Nat) = 4 ∨ (4 : Nat) = 5) hd1
      rw [tj] at flj
      rw [td] at fld
      obtain ⟨-, -, ⟨l3, r3'⟩, -, -, r6, -⟩ := id f9
      obtain ⟨M2, s1, s2, s3⟩ := c_begin (s := 4) r3'
      have s3' : FC [23] FGa M1 M2 := s3
      have gl2 : gL M2 23 = gL M1 23 := by
        have := s1
        unfold m_Gathering_begin at this
        obtain ⟨y1, y2, y3⟩ := c_clear isR22 r3'
        rw [y1, cal_sI] at this
        simp only [Option.bind_some, Option.some.injEq, Prod.mk.injEq, and_true] at this
        rw [← this]
        rfl
      have hI2 := f2.ga s3'
      have hr2 := f9.ga s3' s2.2.2.2 (by rw [gl2]; exact r6)
      have hG2 := (hG.fc f8).fc s3
      obtain ⟨M3, t1, t2, t3, t4, t5⟩ := c_gather (T := []) hI2 (Or.inl rfl) s2 hG2 f4 (fun k hk => by cases hk) (by simp; omega)
      rw [List.nil_append] at t2
      rw [List.length_nil, Nat.zero_add] at t5
      have hr3 := hr2.ga t4 t2.2.2.2 (by omega)
      have hka1 := c_kidAfter (j := 1) (c := c) (d := d1) t3 hi1 (by rw [x2, e1]; simp) hc (by
        rw [x2, hg1, t4.ga (by decide), s3'.ga (by decide), f10 _ (by omega)]
        exact r2)
      have hka1' : m_Terms_kidAfter (Int32.ofNat i) (1 : Int32) (Int32.ofNat c) M3 = some (M3, Int32.ofNat d1) := hka1
      obtain ⟨M4, u1, u2, u3, u4, u5⟩ := c_gather (T := kdP g1 4 j) t3 (Or.inl rfl) t2 (hG2.fc t4) hd1 (kdP_lt f2.1 f4) (by omega)
      have hr4 := hr3.ga u4 u2.2.2.2 (by omega)
      obtain ⟨M5, g2, o, v1, v2, v3, v4, v5, v6, v7, v8, v9, v10⟩ := c_gathered u3 hr4 ((hG2.fc t4).fc u4) (Or.inl rfl) u2 (fun k hk => by
        rcases List.mem_append.mp hk with qq | qq
        · exact kdP_lt f2.1 f4 k qq
        · exact kdP_lt f2.1 hd1 k qq) (by rw [List.length_append]; omega) (by rw [List.map_append, List.flatten_append, List.length_append]; omega) (by omega) (by rw [List.length_append]; omega)
      have hp : ((kdP g1 4 j ++ kdP g1 4 d1).map (ttx g1)).Perm (pt 4 (catS (DS c (ttx g p)) (ttx g q)) ++ pt 4 (DS c (ttx g q))) := by
        rw [List.map_append, ← tj, ← td]
        exact (f2.1.ptP (Or.inl rfl) f4).append (f2.1.ptP (Or.inl rfl) hd1)
      rw [uni_perm hp, ← hDS] at v5
      rw [List.length_append] at v7
      have s1' : m_Gathering_begin (4 : Int32) M1 = some (M2, ()) := s1
      have t1' : m_Terms_gather (4 : Int32) (Int32.ofNat j) M2 = some (M3, ()) := t1
      have u1' : m_Terms_gather (4 : Int32) (Int32.ofNat d1) M3 = some (M4, ()) := u1
      have v1' : m_Terms_gathered (4 : Int32) M4 = some (M5, Int32.ofNat o) := v1
      rw [cal_some s1' s3.le.1 s3.le.2, cal_some t1' t4.le.1 t4.le.2, hka1', cal_same, cal_some u1' u4.le.1 u4.le.2, cal_some v1' v8.le.1 v8.le.2]
      have m : ∀ {A B : MS}, FC [23] FGa A B → FC RN FN A B := fun z => z.mono (by decide) (by decide)
      refine ⟨M5, g2, o, rfl, v2, f3.tr v3, v4, v5, by omega, by omega, (((f8.tr (m s3')).tr (m t4)).tr (m u4)).tr v8, v9, fun z hz => ?_⟩
      rw [v10 z (by have := f3.1; omega), u4.ga (by decide), t4.ga (by decide), s3'.ga (by decide)]
      exact f10 z hz
  rw [if_neg (fun q => c3 ((e8 3 (by omega)).mp q))]
  have several : ∀ s, (s = 4 ∨ s = 5) → tso g i = s → NR g M (DS c (ttx g i)) (cb (ttx g i)) (kb (ttx g i)) ((some (Int32.ofNat (tso g i))).bind fun v12 => cal cM M (m_Gathering_begin v12 M) fun r13 => m_Terms_combined_142 (Int32.ofNat i, Int32.ofNat c, (0 : Int32), r13.1)) := by
    intro s hs hsi
    have hcb : cb (ttx g i) = 1 := by
      unfold cb
      rw [hso, if_neg (by omega), if_neg (by omega)]
    have hkb : kb (ttx g i) = 3 * (ttx g i).length + 4 := by unfold kb; rw [hcb]; omega
    have he := h.1.eq hi (by omega)
    have hkids : ∀ k ∈ tkd g i, k < tU g := fun k hk2 => Nat.lt_trans (h.1.kids hi k hk2) hi
    have hKall : ∀ k ∈ tkd g i, KA g M c k := fun k hk2 => by
      obtain ⟨j, hj, rfl⟩ := List.getElem_of_mem hk2
      have := hk j hj (fun hh => by omega)
      rw [List.getD_eq_getElem?_getD, List.getElem?_eq_getElem hj, Option.getD_some] at this
      exact this
    have h18 : 18 ≤ i := by
      refine Classical.byContradiction (fun hq => ?_)
      by_cases h17 : i = 17
      · rw [h17, h.1.2.2.2.1.1] at hsi; omega
      · by_cases h16 : i = 16
        · rw [h16, h.1.2.2.1.1] at hsi; omega
        · rw [(h.1.2.1 i (by omega)).1] at hsi
          split at hsi <;> omega
    obtain ⟨z1, -, -⟩ := h.1.2.2.2.2.1 i h18 hi
    rw [hsi] at z1 he
    have hsr : SrN (tkd g i) := by
      rcases z1 with q | q | q | q
      · omega
      · exact q.2.2
      · omega
      · omega
    have hlenE := txF_len h.1 z1 hkids
    rw [← he] at hlenE
    have hsum : ((tkd g i).map (fun k => (ttx g k).length)).sum + 1 = (ttx g i).length := by
      rw [hlenE]
      unfold sumL
      omega
    obtain ⟨-, -, ⟨l3, r3'⟩, -, -, r6, -⟩ := id hr
    obtain ⟨M2, s1, s2, s3⟩ := c_begin (s := s) r3'
    have s3' : FC [23] FGa M M2 := s3
    have gl2 : gL M2 23 = gL M 23 := by
      have := s1
      unfold m_Gathering_begin at this
      obtain ⟨y1, y2, y3⟩ := c_clear isR22 r3'
      rw [y1, cal_sI] at this
      simp only [Option.bind_some, Option.some.injEq, Prod.mk.injEq, and_true] at this
      rw [← this]
      rfl
    have hI2 := h.ga s3'
    have hr2 := hr.ga s3' s2.2.2.2 (by rw [gl2]; exact r6)
    obtain ⟨M3, T1, b1, b2, b3, b4, b5, b6, b7, b8⟩ := c_comb142 hs hc hi hsi (tkd g i) [] [] M2 FU rfl hI2 hr2 (hG.fc s3) s2 (fun k hk2 => by cases hk2) (fun k hk2 => by
      obtain ⟨d', q1, q2, q3⟩ := hKall k hk2
      exact ⟨d', q1, by rw [s3'.ga (by decide)]; exact q2, q3⟩) (by simp only [List.length_nil]; omega) (by
        have : (tkd g i).length ≤ (ttx g i).length := by
          have h1 := flat_count (ps := (tkd g i).map (ttx g)) (fun p hp => by
            obtain ⟨k, hk2, rfl⟩ := List.mem_map.mp hp
            exact h.1.wf (hkids k hk2))
          rw [List.length_map, flat_sum, List.map_map] at h1
          have h2 : ((tkd g i).map (List.length ∘ ttx g)).sum = ((tkd g i).map (fun k => (ttx g k).length)).sum := rfl
          omega
        unfold FU; omega)
    rw [List.nil_append] at b2
    have hfl : (T1.map (ttx g)).flatten.length ≤ 45450 := by
      rw [b3.flatten.length_eq]
      have h1 := sumpt (c := c) (s := s) (B := 0) ((tkd g i).map (ttx g)) (fun p hp => by
        obtain ⟨k, hk2, rfl⟩ := List.mem_map.mp hp
        exact h.1.wf (hkids k hk2))
      have h2 := fO_le (c := c) (ps := (tkd g i).map (ttx g)) (fun p hp => by
        obtain ⟨k, hk2, rfl⟩ := List.mem_map.mp hp
        exact h.1.wf (hkids k hk2)) (by
        rw [flat_sum, List.map_map]
        have h2 : ((tkd g i).map (List.length ∘ ttx g)).sum = ((tkd g i).map (fun k => (ttx g k).length)).sum := rfl
        omega)
      rw [List.map_map] at h1
      exact Nat.le_trans h1 h2
    obtain ⟨M5, g2, o, v1, v2, v3, v4, v5, v6, v7, v8, v9, v10⟩ := c_gathered b6 b7 ((hG.fc s3).fc b8) hs b2 b4 (by omega) (by omega) (by omega) (by omega)
    have hDS : DS c (ttx g i) = uni s (T1.map (ttx g)) := by
      have hnd := h.1.mapnd hkids hsr
      rw [he]
      unfold txF
      rw [if_pos hs, DS_several (by rw [ar_or hs, srt_len_nodup hnd]) (fun p hp => by
        obtain ⟨k, hk2, rfl⟩ := List.mem_map.mp (mem_srt.mp hp)
        exact h.1.wf (hkids k hk2)) (by omega), show (s + 8 * ((tkd g i).map (ttx g)).length) % 8 = s by omega]
      refine (uni_perm ?_).symm
      refine b3.trans ?_
      have hp := ((srt_perm_of hnd).map (fun p => pt s (DS c p))).flatten
      rw [List.map_map] at hp
      exact hp.symm
    have e177 : m_Terms_combined_177 (Int32.ofNat i) M3 = some (M5, Int32.ofNat o) := by
      obtain ⟨-, ⟨n3, n4⟩, -, -, mi3⟩ := b6.2.1
      have x3 := (mi3 i hi).1
      unfold m_Terms_combined_177
      rw [ld_of (by omega) (by omega), x3, Option.bind_some, hsi, cal_some v1 v8.le.1 v8.le.2]
    rw [Option.bind_some, hsi, cal_some s1 s3.le.1 s3.le.2]
    have m : ∀ {A B : MS}, FC [23] FGa A B → FC RN FN A B := fun z => z.mono (by decide) (by decide)
    refine ⟨M5, g2, o, b1.trans e177, v2, v3, v4, by rw [v5, hDS], by omega, by omega, ((m s3').tr (m b8)).tr v8, v9, fun z hz => ?_⟩
    rw [v10 z hz, b8.ga (by decide), s3'.ga (by decide)]
  by_cases c4 : tso g i = 4
  · rw [if_pos (show Int32.ofNat (tso g i) = (4 : Int32) by rw [c4]; rfl)]
    exact several 4 (Or.inl rfl) c4
  rw [if_neg (show ¬ Int32.ofNat (tso g i) = (4 : Int32) from fun q => c4 ((e8 4 (by omega)).mp q))]
  by_cases c5 : tso g i = 5
  · rw [if_pos ((e8 5 (by omega)).mpr c5)]
    exact several 5 (Or.inr rfl) c5
  rw [if_neg (fun q => c5 ((e8 5 (by omega)).mp q))]
  by_cases c6 : tso g i = 6
  · rw [if_pos ((e8 6 (by omega)).mpr c6)]
    obtain ⟨a, e1, e2, e3⟩ := h.1.one6 hi (Or.inl rfl) c6
    have hg0 : (tkd g i).getD 0 0 = a := by rw [e1]; rfl
    have haU : a < tU g := by omega
    have wa := h.1.wf haU
    have hl2 := hlen
    rw [e3, List.length_cons] at hl2
    obtain ⟨d0, q1, q2, q3⟩ := hk 0 (by rw [e1]; simp) (fun _ hh => by omega)
    rw [hg0] at q2 q3
    have hka0 := c_kidAfter (j := 0) h hi (by rw [e1]; simp) hc (by rw [hg0]; exact q2)
    have hka0' : m_Terms_kidAfter (Int32.ofNat i) (0 : Int32) (Int32.ofNat c) M = some (M, Int32.ofNat d0) := hka0
    have hDa := DS_le (c := c) wa (by omega)
    have hcb : cb (ttx g i) = 1 := by
      unfold cb
      rw [hso, if_neg (by omega), if_neg (by omega)]
    have hkb : kb (ttx g i) = 3 * (ttx g i).length + 4 := by unfold kb; rw [hcb]; omega
    obtain ⟨M1, g1, j, f1, f2, f3, f4, f5, f6, f7, f8, f9, f10⟩ := c_not h hr hG q1 (by rw [q3]; omega) (by omega) (by omega)
    rw [hka0', cal_same, cal_some f1 f8.le.1 f8.le.2]
    refine ⟨M1, g1, j, rfl, f2, f3, f4, ?_, by omega, by omega, f8, f9, f10⟩
    rw [f5, q3, e3, DS_not wa rfl]
  rw [if_neg (fun q => c6 ((e8 6 (by omega)).mp q))]
  by_cases c7 : tso g i = 7
  · rw [if_pos ((e8 7 (by omega)).mpr c7)]
    obtain ⟨a, e1, e2, e3⟩ := h.1.one6 hi (Or.inr rfl) c7
    have hg0 : (tkd g i).getD 0 0 = a := by rw [e1]; rfl
    have haU : a < tU g := by omega
    have wa := h.1.wf haU
    have hl2 := hlen
    rw [e3, List.length_cons] at hl2
    obtain ⟨d0, q1, q2, q3⟩ := hk 0 (by rw [e1]; simp) (fun _ hh => by omega)
    rw [hg0] at q2 q3
    have hsp0 := hsp (Or.inr c7) d0 q1 (by rw [hg0]; exact q3)
    rw [hg0] at hsp0
    have hka0 := c_kidAfter (j := 0) h hi (by rw [e1]; simp) hc (by rw [hg0]; exact q2)
    have hka0' : m_Terms_kidAfter (Int32.ofNat i) (0 : Int32) (Int32.ofNat c) M = some (M, Int32.ofNat d0) := hka0
    have hDa := DS_le (c := c) wa (by omega)
    have hcb : cb (ttx g i) = (ttx g a).length + 1 := by
      unfold cb
      rw [hso, if_neg (by omega), if_pos c7, e3, List.length_cons]
    have hkb : kb (ttx g i) = 2 * ((ttx g a).length + 1) + 3 * (ttx g i).length + 2 := by unfold kb; rw [hcb]
    obtain ⟨M1, g1, j, f1, f2, f3, f4, f5, f6, f7, f8, f9, f10⟩ := c_cat h hr hG q1 hi (by rw [q3]; omega) (by omega) (by omega) (by omega)
    rw [hka0', cal_same, cal_some f1 f8.le.1 f8.le.2]
    refine ⟨M1, g1, j, rfl, f2, f3, f4, ?_, by omega, by omega, f8, f9, f10⟩
    rw [f5, q3]
    conv => rhs; rw [e3]
    rw [DS_star wa rfl, e3]
  · rw [if_neg (fun q => c7 ((e8 7 (by omega)).mp q))]
    have hleaf : ttx g i = [0] ∨ ttx g i = [1] := by
      have h18 : i < 18 := by
        refine Classical.byContradiction (fun hq => ?_)
        have := (h.1.2.2.2.2.1 i (by omega) hi).1.lt
        omega
      by_cases h17 : i = 17
      · rw [h17, h.1.2.2.2.1.1] at c6; omega
      · by_cases h16 : i = 16
        · right; rw [h16]; exact h.1.t16
        · left
          have := (h.1.2.1 i (by omega)).1
          by_cases h0 : i = 0
          · rw [h0]; exact h.1.t0
          · rw [if_neg h0] at this
            omega
    have hDS : DS c (ttx g i) = [0] := by
      rcases hleaf with q | q
      · rw [q, DS_leaf (by omega), if_neg (by omega)]
      · rw [q, DS_leaf (by omega), if_neg (by omega)]
    rw [hDS]
    exact NR.here (i := 0) h hr (by omega) h.1.t0
