/-! STEP 2: the reference's join -/
theorem b01_t : b01 true = 1 := rfl
theorem b01_f : b01 false = 0 := rfl
theorem i10 : ((1 : Int32) = 0) ↔ False := by decide
def sl3 (a b c : Int32) : Bool := slB a && slB b && slB c
theorem r_join_bad1 {S : Nat → List Nat} {W : Option (List Nat)} {M : MS} {a b c d : Int32} (hI : RI S W M) (h : (slB a && slB b && slB c) = false) : RA S W M (m_Mo_join a b c d M) 0 1 := by
  have e : m_Mo_join a b c d M = some (sI M 97 0 1, 0) := by
    cases h1 : slB a
    · simp only [m_Mo_join, m_Mo_join_25, m_Mo_join_26, m_Mo_join_39, m_Mo_join_59, m_Mo_join_60, r_isSlot, cal_same, h1, b01_t, b01_f, i10, not_true_eq_false, if_true, if_false, r_fail1, cal_sI]
    · cases h2 : slB b
      · simp only [m_Mo_join, m_Mo_join_25, m_Mo_join_26, m_Mo_join_39, m_Mo_join_59, m_Mo_join_60, r_isSlot, cal_same, h1, h2, b01_t, b01_f, i10, not_true_eq_false, if_true, if_false, r_fail1, cal_sI]
      · cases h3 : slB c
        · simp only [m_Mo_join, m_Mo_join_25, m_Mo_join_26, m_Mo_join_39, m_Mo_join_59, m_Mo_join_60, r_isSlot, cal_same, h1, h2, h3, b01_t, b01_f, i10, not_true_eq_false, if_true, if_false, r_fail1, cal_sI]
        · rw [h1, h2, h3] at h
          cases h
  rw [e]
  exact RA.fail hI _ _
theorem r_join_bad2 {S : Nat → List Nat} {W : Option (List Nat)} {M : MS} {a b c d : Int32} (hI : RI S W M) (h1 : slB a = true) (h2 : slB b = true) (h3 : slB c = true) (hd : d.toInt < 0 ∨ 2 < d.toInt) : RA S W M (m_Mo_join a b c d M) 0 2 := by
  have e : m_Mo_join a b c d M = some (sI M 97 0 2, 0) := by
    by_cases h4 : d < 0
    · simp only [m_Mo_join, m_Mo_join_26, m_Mo_join_39, m_Mo_join_55, m_Mo_join_60, r_isSlot, cal_same, h1, h2, h3, h4, b01_t, i10, not_false_eq_true, if_true, if_false, r_fail2, cal_sI]
    · have h5 : ¬ d ≤ 2 := by
        rw [i_lt, i_0] at h4
        rw [i_le, i_2]
        omega
      simp only [m_Mo_join, m_Mo_join_26, m_Mo_join_39, m_Mo_join_55, m_Mo_join_60, r_isSlot, cal_same, h1, h2, h3, h4, h5, b01_t, i10, not_false_eq_true, if_true, if_false, r_fail2, cal_sI]
  rw [e]
  exact RA.fail hI _ _
theorem uni_len2 {s : Nat} {ps : List (List Nat)} (h : ∀ p ∈ ps, wf p) : (uni s ps).length ≤ ps.flatten.length + 2 := by
  by_cases hne : ps = []
  · subst hne
    have : uni s [] = neS s := by simp [uni, srt, mkS]
    rw [this]
    have := neS_len s
    omega
  · have := uni_len (s := s) h hne
    omega
def joinT (how : Nat) (a b : List Nat) : List Nat := if how = 0 then catS a b else if how = 1 then uni 4 (pt 4 a ++ pt 4 b) else uni 5 (pt 5 a ++ pt 5 b)
theorem ok_uni2 {s : Nat} (hs : s = 4 ∨ s = 5) {a b : List Nat} (ha : okT a) (hb : okT b) : wf (uni s (pt s a ++ pt s b)) ∧ pr (uni s (pt s a ++ pt s b)) ∧ (uni s (pt s a ++ pt s b)).length ≤ 202 ∧ (pt s a ++ pt s b).flatten.length ≤ 200 := by
  have hw : ∀ p ∈ pt s a ++ pt s b, wf p := fun p hp => by
    rcases List.mem_append.mp hp with h | h
    · exact pt_wf ha.1 p h
    · exact pt_wf hb.1 p h
  have h1 := uni_len2 (s := s) hw
  have h2 := pt_len (s := s) ha.1
  have h3 := pt_len (s := s) hb.1
  have h4 := ha.2.2
  have h5 := hb.2.2
  rw [List.flatten_append, List.length_append] at h1
  refine ⟨wf_uni hs hw, pr_uni hs hw (fun p hp => ?_), by omega, by rw [List.flatten_append, List.length_append]; omega⟩
  rcases List.mem_append.mp hp with h | h
  · exact pr_pt ha.1 ha.2.1 p h
  · exact pr_pt hb.1 hb.2.1 p h
theorem okT.sm {t : List Nat} (h : okT t) : sm t := sm_wf h.1 h.2.1 (by have := h.2.2; omega)
theorem r_join114 {M : MS} {l1 l4 : Int32} {a b : Nat} {A : List Nat} (ha : a < 16) (h8 : gL M 98 = 1600) (h9 : gL M 99 = 16) (hw : gL M 100 = 130000) (hA : At M 98 (100 * a) A) (hs : gA M 99 a = Int32.ofNat A.length) (hl : A.length ≤ 100) :
    ∀ (v u : List Nat) (F : Nat), A = u ++ v → v.length < F → fx (fun (k : Int32 × Int32 × Int32 × Int32 × Int32 × MS → Option (MS × Int32)) (i : Int32 × Int32 × Int32 × Int32 × Int32 × MS) => m_Mo_join_114b k i.1 i.2.1 i.2.2.1 i.2.2.2.1 i.2.2.2.2.1 i.2.2.2.2.2) F (l1, Int32.ofNat a, Int32.ofNat b, l4, Int32.ofNat u.length, wr M 100 0 u) = m_Mo_join_153 (l1, Int32.ofNat a, Int32.ofNat b, l4, 0, wr M 100 0 A) := by
  intro v
  induction v with
  | nil =>
    intro u F e hF
    rw [List.append_nil] at e
    subst e
    cases F with
    | zero => simp at hF
    | succ F =>
      show m_Mo_join_114b _ l1 (Int32.ofNat a) (Int32.ofNat b) l4 (Int32.ofNat A.length) (wr M 100 0 A) = _
      unfold m_Mo_join_114b
      rw [ld_of (by rw [gL_wr]; omega) (by omega), gA_wr, if_neg (by omega), hs]
      simp only [Option.bind_some]
      rw [if_pos (Int32.le_refl _)]
  | cons x v ih =>
    intro u F e hF
    have hlen : A.length = u.length + v.length + 1 := by rw [e, List.length_append, List.length_cons]; omega
    rw [List.length_cons] at hF
    cases F with
    | zero => omega
    | succ F =>
      show m_Mo_join_114b _ l1 (Int32.ofNat a) (Int32.ofNat b) l4 (Int32.ofNat u.length) (wr M 100 0 u) = _
      have hA2 := hA
      rw [e] at hA2
      obtain ⟨g1, g2⟩ := hA2.get
      unfold m_Mo_join_114b
      rw [ld_of (by rw [gL_wr]; omega) (by omega), gA_wr, if_neg (by omega), hs]
      simp only [Option.bind_some]
      rw [if_neg (by rw [i_le_of (by omega) (by omega)]; omega), show (100 : Int32) = Int32.ofNat 100 from rfl, i_mul_of, i_add_of, ld_of (by rw [gL_wr]; omega) (by omega), gA_wr, if_neg (by omega), g1]
      simp only [Option.bind_some]
      rw [st_of (by rw [gL_wr]; omega) (by omega)]
      simp only [Option.bind_some]
      have hsn := wr_snoc (M := M) (b := 100) (j := 0) (x := x) (t := u)
      rw [Nat.zero_add] at hsn
      rw [hsn, i_inc]
      have := ih (u ++ [x]) F (by rw [e, List.append_assoc]; rfl) (by omega)
      rw [List.length_append] at this
      exact this
theorem r_join153 {M : MS} {l1 l4 : Int32} {a b n : Nat} {B : List Nat} (ha : a < 16) (hb : b < 16) (h8 : gL M 98 = 1600) (h9 : gL M 99 = 16) (hw : gL M 100 = 130000) (hB : At M 98 (100 * b) B) (hsa : gA M 99 a = Int32.ofNat n) (hs : gA M 99 b = Int32.ofNat B.length) (hl : B.length ≤ 100) (hn : n ≤ 100) :
    ∀ (v u : List Nat) (F : Nat), B = u ++ v → v.length < F → fx (fun (k : Int32 × Int32 × Int32 × Int32 × Int32 × MS → Option (MS × Int32)) (i : Int32 × Int32 × Int32 × Int32 × Int32 × MS) => m_Mo_join_153b k i.1 i.2.1 i.2.2.1 i.2.2.2.1 i.2.2.2.2.1 i.2.2.2.2.2) F (l1, Int32.ofNat a, Int32.ofNat b, l4, Int32.ofNat u.length, wr M 100 n u) = m_Mo_join_196 l1 (Int32.ofNat a) (Int32.ofNat b) l4 (wr M 100 n B) := by
  intro v
  induction v with
  | nil =>
    intro u F e hF
    rw [List.append_nil] at e
    subst e
    cases F with
    | zero => simp at hF
    | succ F =>
      show m_Mo_join_153b _ l1 (Int32.ofNat a) (Int32.ofNat b) l4 (Int32.ofNat B.length) (wr M 100 n B) = _
      unfold m_Mo_join_153b
      rw [ld_of (by rw [gL_wr]; omega) (by omega), gA_wr, if_neg (by omega), hs]
      simp only [Option.bind_some]
      rw [if_pos (Int32.le_refl _)]
  | cons x v ih =>
    intro u F e hF
    have hlen : B.length = u.length + v.length + 1 := by rw [e, List.length_append, List.length_cons]; omega
    rw [List.length_cons] at hF
    cases F with
    | zero => omega
    | succ F =>
      show m_Mo_join_153b _ l1 (Int32.ofNat a) (Int32.ofNat b) l4 (Int32.ofNat u.length) (wr M 100 n u) = _
      have hB2 := hB
      rw [e] at hB2
      obtain ⟨g1, g2⟩ := hB2.get
      unfold m_Mo_join_153b
      rw [ld_of (by rw [gL_wr]; omega) (by omega), gA_wr, if_neg (by omega), hs]
      simp only [Option.bind_some]
      rw [if_neg (by rw [i_le_of (by omega) (by omega)]; omega), ld_of (by rw [gL_wr]; omega) (by omega), gA_wr, if_neg (by omega), hsa]
      simp only [Option.bind_some]
      rw [show (100 : Int32) = Int32.ofNat 100 from rfl, i_mul_of, i_add_of, ld_of (by rw [gL_wr]; omega) (by omega), gA_wr, if_neg (by omega), g1]
      simp only [Option.bind_some]
      rw [i_add_of, st_of (by rw [gL_wr]; omega) (by omega)]
      simp only [Option.bind_some]
      rw [wr_snoc, i_inc]
      have := ih (u ++ [x]) F (by rw [e, List.append_assoc]; rfl) (by omega)
      rw [List.length_append] at this
      exact this
theorem r_join196 {S : Nat → List Nat} {W : Option (List Nat)} {M M0 : MS} {s a b how so : Nat} (hw : (how = 1 ∧ so = 4) ∨ (how = 2 ∧ so = 5)) (hI : RI S W M) (h0 : FrR M0 M) (hth : gI M 97 0 = 0) (hs : s < 16) (ha : a < 16) (hb : b < 16) (hA : At M 100 0 (S a)) (hB : At M 100 (S a).length (S b)) :
    RA (kS S s (uni so (pt so (S a) ++ pt so (S b)))) W M0 (m_Mo_join_196 (Int32.ofNat s) (Int32.ofNat a) (Int32.ofNat b) (Int32.ofNat how) M) (kAns (uni so (pt so (S a) ++ pt so (S b)))) 0 := by
  have hso : so = 4 ∨ so = 5 := by omega
  obtain ⟨hL, hSl, hWt⟩ := id hI
  obtain ⟨a1, a2, a3⟩ := hSl a ha
  obtain ⟨b1, b2, b3⟩ := hSl b hb
  have al := a3.2.2
  have bl := b3.2.2
  obtain ⟨hRL, ⟨l8, l9⟩, -, -⟩ := hL
  generalize hM1 : sI (sI M 97 10 (Int32.ofNat ((S a).length + (S b).length))) 97 13 0 = M1
  have hf1 : Fr RD FD M M1 := by
    rw [← hM1]
    exact (Fr.stI (by decide)).tr (Fr.stI (by decide))
  have h13 : gI M1 97 13 = Int32.ofNat ([] : List (Nat × List Nat)).length := by rw [← hM1, gI_sI, if_pos ⟨rfl, rfl⟩]; rfl
  have h10 : gI M1 97 10 = Int32.ofNat ((S a).length + (S b).length) := by rw [← hM1, gI_sI, if_neg (by omega), gI_sI, if_pos ⟨rfl, rfl⟩]
  have hA1 : At M1 100 0 (S a) := by rw [← hM1]; exact hA
  have hB1 : At M1 100 (S a).length (S b) := by rw [← hM1]; exact hB
  have hp1 := pt_cnt (s := so) a3.1
  have hp2 := pt_cnt (s := so) b3.1
  obtain ⟨M2, p1, p2, p3, p4⟩ := d_part (M := M1) (s := so) (P := []) (by omega) a3.1 a3.sm hA1 (fun i q h => by simp at h) h13 (hRL.of hf1.ln) (by simp only [List.length_nil]; omega)
  rw [List.nil_append] at p2 p3
  have hlA : (ptA so 0 (S a)).length = (pt so (S a)).length := by rw [← ptA_snd so 0, List.length_map]
  have hlB : (ptA so (S a).length (S b)).length = (pt so (S b)).length := by rw [← ptA_snd so (S a).length, List.length_map]
  have hf2 : Fr RD FD M M2 := hf1.tr (p4.mono (by decide) (by decide))
  obtain ⟨M3, q1, q2, q3, q4⟩ := d_part (M := M2) (s := so) (by omega) b3.1 b3.sm (hB1.fr p4 (by decide)) p2 p3 (hRL.of hf2.ln) (by omega)
  have hf3 : Fr RD FD M M3 := hf2.tr (q4.mono (by decide) (by decide))
  have hL3 := hRL.of hf3.ln
  have hA3 : At M3 100 0 (S a) := (hA1.fr p4 (by decide)).fr q4 (by decide)
  have hB3 : At M3 100 (S a).length (S b) := (hB1.fr p4 (by decide)).fr q4 (by decide)
  have hmap : (ptA so 0 (S a) ++ ptA so (S a).length (S b)).map Prod.snd = pt so (S a) ++ pt so (S b) := by rw [List.map_append, ptA_snd, ptA_snd]
  obtain ⟨o1, o2, o3, o4⟩ := ok_uni2 hso a3 b3
  obtain ⟨M4, u1, u2, u3⟩ := r_unite (M := M3) (s := so) (fill := (S a).length + (S b).length) hso hL3.2.2.2.1 hL3.2.2.2.2 hL3.1 hL3.2.1 q3 (by rw [List.length_append]; omega) (by rw [q4.gi (by decide), p4.gi (by decide)]; exact h10) (by omega) q2 (fun d hd => by
    rcases List.mem_append.mp hd with h | h
    · have hm : d.2 ∈ pt so (S a) := by rw [← ptA_snd so 0]; exact List.mem_map.mpr ⟨d, h, rfl⟩
      have := (ptA_at a3.1 hA3 d h).2
      exact ⟨pt_wf a3.1 _ hm, fun x hx => a3.sm x (pt_sub a3.1 hm x hx), by omega⟩
    · have hm : d.2 ∈ pt so (S b) := by rw [← ptA_snd so (S a).length]; exact List.mem_map.mpr ⟨d, h, rfl⟩
      have := (ptA_at b3.1 hB3 d h).2
      exact ⟨pt_wf b3.1 _ hm, fun x hx => b3.sm x (pt_sub b3.1 hm x hx), by omega⟩) (by rw [hmap]; omega)
  rw [hmap] at u1 u2
  have hf4 : Fr RD FD M M4 := hf3.tr (u3.1.mono (by decide) (by decide))
  have hk := RA.keep (M := M4) (M0 := M0) (s := s) (t := uni so (pt so (S a) ++ pt so (S b))) (h0.tr (hf4.toR (by decide) (by decide))) (by rw [hf4.gi (by decide)]; exact hth) (hI.fr hf4 (by decide) (by decide) (by decide) (by decide)) hs o1 o2 (fun _ => u2) (by omega)
  have hg2 : gA M2 99 a = Int32.ofNat (S a).length := by rw [hf2.ga (by decide)]; exact a2
  have hg2b : gA M2 99 b = Int32.ofNat (S b).length := by rw [hf2.ga (by decide)]; exact b2
  have hg1 : gA M1 99 a = Int32.ofNat (S a).length := by rw [hf1.ga (by decide)]; exact a2
  have hL1l := hf1.ln
  have hL2l := hf2.ln
  unfold m_Mo_join_196
  rw [ld_of (by omega) (by omega), a2]
  simp only [Option.bind_some]
  rw [ld_of (by omega) (by omega), b2]
  simp only [Option.bind_some]
  rw [i_add_of, hM1, ld_of (by rw [hL1l]; omega) (by omega), hg1]
  simp only [Option.bind_some]
  unfold m_Mo_join_237 m_Mo_join_264 m_Mo_join_281
  have p1' : m_Mo_part (0 : Int32) (Int32.ofNat (S a).length) (Int32.ofNat so) M1 = some (M2, ()) := p1
  rcases hw with ⟨rfl, rfl⟩ | ⟨rfl, rfl⟩
  · have p1'' : m_Mo_part (0 : Int32) (Int32.ofNat (S a).length) (4 : Int32) M1 = some (M2, ()) := p1
    have q1'' : m_Mo_part (Int32.ofNat (S a).length) (Int32.ofNat (S b).length) (4 : Int32) M2 = some (M3, ()) := q1
    have u1'' : m_Mo_unite (4 : Int32) M3 = _ := u1
    rw [if_neg (by decide), cal_some p1'' p4.le.1 p4.le.2]
    rw [ld_of (by rw [hL2l]; omega) (by omega), hg2]
    simp only [Option.bind_some]
    rw [ld_of (by rw [hL2l]; omega) (by omega), hg2b]
    simp only [Option.bind_some]
    rw [if_neg (by decide), cal_some q1'' q4.le.1 q4.le.2]
    rw [if_neg (by decide), cal_some u1'' u3.1.le.1 u3.1.le.2]
    exact hk
  · have p1'' : m_Mo_part (0 : Int32) (Int32.ofNat (S a).length) (5 : Int32) M1 = some (M2, ()) := p1
    have q1'' : m_Mo_part (Int32.ofNat (S a).length) (Int32.ofNat (S b).length) (5 : Int32) M2 = some (M3, ()) := q1
    have u1'' : m_Mo_unite (5 : Int32) M3 = _ := u1
    rw [if_pos (by decide), cal_some p1'' p4.le.1 p4.le.2]
    rw [ld_of (by rw [hL2l]; omega) (by omega), hg2]
    simp only [Option.bind_some]
    rw [ld_of (by rw [hL2l]; omega) (by omega), hg2b]
    simp only [Option.bind_some]
    rw [if_pos (by decide), cal_some q1'' q4.le.1 q4.le.2]
    rw [if_pos (by decide), cal_some u1'' u3.1.le.1 u3.1.le.2]
    exact hk
theorem r_join {S : Nat → List Nat} {W : Option (List Nat)} {M : MS} {s a b how : Nat} (hI : RI S W M) (hs : s < 16) (ha : a < 16) (hb : b < 16) (hh : how ≤ 2) :
    RA (kS S s (joinT how (S a) (S b))) W M (m_Mo_join (Int32.ofNat s) (Int32.ofNat a) (Int32.ofNat b) (Int32.ofNat how) M) (kAns (joinT how (S a) (S b))) 0 := by
  have n1 : ¬ Int32.ofNat how < 0 := by rw [i_lt, i_of (by omega), i_0]; omega
  have n2 : Int32.ofNat how ≤ 2 := by rw [i_le, i_of (by omega), i_2]; omega
  have e : m_Mo_join (Int32.ofNat s) (Int32.ofNat a) (Int32.ofNat b) (Int32.ofNat how) M = m_Mo_join_60 (Int32.ofNat s) (Int32.ofNat a) (Int32.ofNat b) (Int32.ofNat how) 0 0 M := by
    simp only [m_Mo_join, m_Mo_join_26, m_Mo_join_39, m_Mo_join_59, r_isSlot, cal_same, slB_nat hs, slB_nat ha, slB_nat hb, n1, n2, b01_t, i10, not_false_eq_true, if_true, if_false]
  rw [e]
  unfold m_Mo_join_60
  rw [r_fail0, cal_sI, if_pos (by show (0 : Int32) = 0; decide)]
  have hI0 := hI.thr 0
  have hth : gI (sI M 97 0 0) 97 0 = 0 := by rw [gI_sI, if_pos ⟨rfl, rfl⟩]
  have hF0 : FrR M (sI M 97 0 0) := FrR.thr 0
  generalize sI M 97 0 0 = M1 at hI0 hth hF0
  obtain ⟨hL, hSl, hWt⟩ := id hI0
  obtain ⟨a1, a2, a3⟩ := hSl a ha
  obtain ⟨b1, b2, b3⟩ := hSl b hb
  have al := a3.2.2
  have bl := b3.2.2
  obtain ⟨hRL, ⟨l8, l9⟩, -, -⟩ := hL
  obtain ⟨l0, l01, -, -, -⟩ := id hRL
  unfold joinT
  by_cases h0 : how = 0
  · rw [if_pos h0, if_neg (show ¬ ¬ Int32.ofNat how = 0 by rw [h0]; decide)]
    rw [ld_of (by show _ < gL M1 99; omega) (by omega)]
    simp only [Option.bind_some]
    rw [ld_of (by show _ < gL M1 99; omega) (by omega)]
    simp only [Option.bind_some]
    rw [a2, b2, show (100 : Int32) = Int32.ofNat 100 from rfl, i_mul_of, i_mul_of]
    rw [r_cat (M := M1) (l1 := 98) (l4 := 98) (by decide) (by decide) (by decide) (by decide) a3.1 b3.1 a3.sm b3.sm (pr_3 a3.2.1) a1 b1 (by omega) (by omega) (by omega) (by omega), cal_wr]
    have hcl := catS_len a3.1 b3.1
    have hfr : Fr [101] [] M1 (wr M1 101 0 (catS (S a) (S b))) := Fr.wr (by decide)
    exact RA.keep (M := wr M1 101 0 (catS (S a) (S b))) (hF0.tr (hfr.toR (by decide) (by decide))) hth (hI0.fr hfr (by decide) (by decide) (by decide) (by decide)) hs (wf_catS a3.1 b3.1) (pr_catS a3.1 a3.2.1 b3.2.1) (fun _ => At_wr0 l01 (by omega)) (by omega)
  · rw [if_neg h0, if_pos (show ¬ Int32.ofNat how = 0 by rw [i_eq, i_of (by omega), i_0]; omega)]
    have h1 := r_join114 (M := M1) (l1 := Int32.ofNat s) (l4 := Int32.ofNat how) (a := a) (b := b) (A := S a) ha l8 l9 l0 a1 a2 al (S a) [] FU rfl (by unfold FU; omega)
    rw [wr_nil] at h1
    have hfr : Fr [100] [] M1 (wr M1 100 0 (S a)) := Fr.wr (by decide)
    have h2 := r_join153 (M := wr M1 100 0 (S a)) (l1 := Int32.ofNat s) (l4 := Int32.ofNat how) (a := a) (b := b) (n := (S a).length) (B := S b) ha hb l8 l9 l0 (b1.fr hfr (by decide)) (by rw [hfr.ga (by decide)]; exact a2) (by rw [hfr.ga (by decide)]; exact b2) bl al (S b) [] FU rfl (by unfold FU; omega)
    rw [wr_nil] at h2
    have hfr2 : Fr [100] [] M1 (wr (wr M1 100 0 (S a)) 100 (S a).length (S b)) := hfr.tr (Fr.wr (by decide))
    have hAt : At (wr (wr M1 100 0 (S a)) 100 (S a).length (S b)) 100 0 (S a) := At_wr_dis (by omega) (At_wr (by omega))
    have hBt : At (wr (wr M1 100 0 (S a)) 100 (S a).length (S b)) 100 (S a).length (S b) := At_wr (by rw [gL_wr]; omega)
    have e2 := h1.trans h2
    have e3 : m_Mo_join_114 (Int32.ofNat s, Int32.ofNat a, Int32.ofNat b, Int32.ofNat how, 0, M1) = _ := e2
    rw [e3]
    by_cases h1 : how = 1
    · rw [if_pos h1]
      exact r_join196 (how := how) (so := 4) (Or.inl ⟨h1, rfl⟩) (hI0.fr hfr2 (by decide) (by decide) (by decide) (by decide)) (hF0.tr (hfr2.toR (by decide) (by decide))) hth hs ha hb hAt hBt
    · rw [if_neg h1]
      exact r_join196 (how := how) (so := 5) (Or.inr ⟨by omega, rfl⟩) (hI0.fr hfr2 (by decide) (by decide) (by decide) (by decide)) (hF0.tr (hfr2.toR (by decide) (by decide))) hth hs ha hb hAt hBt
