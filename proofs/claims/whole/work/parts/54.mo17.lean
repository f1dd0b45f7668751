/-! STEP 2: the reference's both and several -/
theorem foldl_perm {f : Nat → Nat → Nat} (hf : ∀ z x y, f (f z x) y = f (f z y) x) {a b : List Nat} (h : a.Perm b) : ∀ z, a.foldl f z = b.foldl f z := by
  induction h with
  | nil => intro z; rfl
  | cons x _ ih => intro z; exact ih (f z x)
  | swap x y l => intro z; show l.foldl f (f (f z y) x) = l.foldl f (f (f z x) y); rw [hf]
  | trans _ _ ih1 ih2 => intro z; rw [ih1, ih2]
theorem ltS_perm {s : Nat} {a b : List (List Nat)} (h : a.Perm b) : ltS s a = ltS s b := by
  unfold ltS
  refine foldl_perm (fun z x y => ?_) (h.map _) _
  split
  · rw [Nat.or_assoc, Nat.or_comm x y, Nat.or_assoc]
  · rw [Nat.and_assoc, Nat.and_comm x y, Nat.and_assoc]
theorem srt_ext {a b : List (List Nat)} (h : ∀ q, q ∈ a ↔ q ∈ b) : srt a = srt b := Srt_ext _ _ (srt_Srt _) (srt_Srt _) (fun q => by rw [mem_srt, mem_srt]; exact h q)
/-- OR and AND don't ask in what order their parts come -/
theorem uni_perm {s : Nat} {a b : List (List Nat)} (h : a.Perm b) : uni s a = uni s b := by
  have h1 := h.filter (fun p => decide (hd p % 8 = 2))
  have h2 := h.filter (fun p => decide (¬ hd p % 8 = 2 ∧ p ≠ neS s))
  have h3 := ltS_perm (s := s) h1
  have h4 : (a.filter (fun p => decide (hd p % 8 = 2)) = []) ↔ (b.filter (fun p => decide (hd p % 8 = 2)) = []) := by
    rw [← List.length_eq_zero_iff, ← List.length_eq_zero_iff, h1.length_eq]
  unfold uni
  rw [h3]
  simp only [h.mem_iff, h4, ne_eq]
  have h5 : srt (a.filter (fun p => decide (¬ hd p % 8 = 2 ∧ p ≠ neS s)) ++ (if b.filter (fun p => decide (hd p % 8 = 2)) = [] then [] else [[2 + 8 * ltS s (b.filter (fun p => decide (hd p % 8 = 2)))]])) = srt (b.filter (fun p => decide (¬ hd p % 8 = 2 ∧ p ≠ neS s)) ++ (if b.filter (fun p => decide (hd p % 8 = 2)) = [] then [] else [[2 + 8 * ltS s (b.filter (fun p => decide (hd p % 8 = 2)))]])) := by
    refine srt_ext (fun q => ?_)
    rw [List.mem_append, List.mem_append, h2.mem_iff]
  simp only [ne_eq] at h5
  rw [h5]
theorem pt_DS_cnt {c s : Nat} (hs : s = 4 ∨ s = 5) {t : List Nat} (h : wf t) (hp : pr t) : (pt s (DS c t)).length ≤ 2 * t.length := by
  obtain ⟨m, h1, h2, h3⟩ := mx_DS (c := c) t h hp
  have := pt_mx hs (wf_DS (c := c) t h) h1 h2
  omega
theorem pt_cnt {s : Nat} {t : List Nat} (h : wf t) : (pt s t).length ≤ t.length := Nat.le_trans (flat_count (pt_wf h)) (pt_len h)
theorem sm_catS {a b : List Nat} (wa : wf a) (sa : sm a) (sb : sm b) : sm (catS a b) := fun x hx => by
  rcases mem_catS wa hx with h | h | h | h
  · omega
  · omega
  · exact sa x h
  · exact sb x h
theorem pr_3 {t : List Nat} (h : pr t) : ∀ x ∈ t, x % 8 = 3 → x = 3 := fun x hx q => by
  rcases h x hx with h | h | h <;> omega
theorem r_both153 {M : MS} {c e : Nat} {a b p : List Nat} {r : List (List Nat)} (hL : RL (gL M)) (hS : SI M c e (a :: b :: r)) (hn : NS p = (NS a && NS b)) (hA : At M 101 0 (DS c p)) (hf : fO c r + (DS c p).length ≤ 130000) (hr : r.length < 390) :
    ∃ M2, m_Mo_both_153 (Int32.ofNat (r.length + 1)) (Int32.ofNat r.length) (Int32.ofNat (DS c p).length) M = some (M2, ()) ∧ DInv M2 c e (p :: r) ∧ Fr RD FD M M2 := by
  obtain ⟨⟨a1, a2, a3, a4, a5⟩, ⟨b1, b2, b3, b4, b5⟩, hr2⟩ := hS
  rw [List.length_cons] at a4
  obtain ⟨l0, l1, ⟨l2, l3, l4, l5⟩, l6, l7⟩ := hL
  have hfr : Fr [101, 106, 107] [(97, 9), (97, 10), (97, 13)] M (sI M 97 9 (Int32.ofNat r.length)) := Fr.stI (by decide)
  have hS2 : SI (sI M 97 9 (Int32.ofNat r.length)) c e r := SI.df (DF.of (fill := fO c r) hfr) (Nat.le_refl _) hr2
  have hpl : ∀ z4 : Int32, z4 = b01 (NS p) → ∃ M2, m_Mo_both_196 (Int32.ofNat (fO c r)) (Int32.ofNat (DS c p).length) (Int32.ofNat (e - r.flatten.length)) z4 (sI M 97 9 (Int32.ofNat r.length)) = some (M2, ()) ∧ DInv M2 c e (p :: r) ∧ Fr RD FD M M2 := by
    intro z4 h4
    obtain ⟨M2, q1, q2, q3⟩ := d_place (M := sI M 97 9 (Int32.ofNat r.length)) (p := p) (l3 := Int32.ofNat (e - r.flatten.length)) (l4 := z4) (by exact ⟨l0, l1, ⟨l2, l3, l4, l5⟩, l6, l7⟩) hS2 (by rw [gI_sI, if_pos ⟨rfl, rfl⟩]) hA hf (by omega) rfl h4
    refine ⟨M2, ?_, q2, (hfr.mono (by decide) (by decide)).tr q3⟩
    unfold m_Mo_both_196
    rw [cal_some q1 q3.le.1 q3.le.2]
  unfold m_Mo_both_153
  simp only [Option.bind_some]
  rw [ld_of (by show _ < gL M 102; omega) (by omega)]
  simp only [Option.bind_some]
  rw [ld_of (by show _ < gL M 104; omega) (by omega)]
  simp only [Option.bind_some]
  rw [ld_of (by show _ < gL M 105; omega) (by omega)]
  simp only [Option.bind_some, gA_sI]
  rw [b1, b3, a4]
  cases ha : NS a with
  | false =>
    rw [if_pos (by decide)]
    exact hpl 0 (by rw [hn, ha]; rfl)
  | true =>
    rw [if_neg (by decide), ld_of (by show _ < gL M 105; omega) (by omega)]
    simp only [Option.bind_some, gA_sI]
    rw [b4]
    cases hb : NS b with
    | false =>
      rw [if_pos (by decide)]
      exact hpl 0 (by rw [hn, ha, hb]; rfl)
    | true =>
      rw [if_neg (by decide)]
      exact hpl 1 (by rw [hn, ha, hb]; rfl)
theorem r_both74 {M : MS} {fill : Nat} {l2 l3 : Int32} (C : List Nat) (hw : gL M 100 = 130000) (hC : At M 101 0 C) (hf : fill + C.length ≤ 130000) :
    ∀ (v u : List Nat) (F : Nat), C = u ++ v → v.length < F → fx (fun (k : Int32 × Int32 × Int32 × Int32 × Int32 × MS → Option (MS × Unit)) (i : Int32 × Int32 × Int32 × Int32 × Int32 × MS) => m_Mo_both_74b k i.1 i.2.1 i.2.2.1 i.2.2.2.1 i.2.2.2.2.1 i.2.2.2.2.2) F (l2, l3, Int32.ofNat C.length, Int32.ofNat fill, Int32.ofNat u.length, wr M 100 fill u) = m_Mo_both_104 l2 l3 (Int32.ofNat C.length) (Int32.ofNat fill) (wr M 100 fill C) := by
  intro v
  induction v with
  | nil =>
    intro u F e hF
    rw [List.append_nil] at e
    subst e
    cases F with
    | zero => simp at hF
    | succ F =>
      show m_Mo_both_74b _ l2 l3 (Int32.ofNat C.length) (Int32.ofNat fill) (Int32.ofNat C.length) (wr M 100 fill C) = _
      unfold m_Mo_both_74b
      rw [if_pos (Int32.le_refl _)]
  | cons x v ih =>
    intro u F e hF
    have hlen : C.length = u.length + v.length + 1 := by rw [e, List.length_append, List.length_cons]; omega
    rw [List.length_cons] at hF
    cases F with
    | zero => omega
    | succ F =>
      show m_Mo_both_74b _ l2 l3 (Int32.ofNat C.length) (Int32.ofNat fill) (Int32.ofNat u.length) (wr M 100 fill u) = _
      have hC2 := hC
      rw [e] at hC2
      obtain ⟨g1, g2⟩ := hC2.get
      rw [Nat.zero_add] at g1 g2
      have e1 : gA (wr M 100 fill u) 101 u.length = Int32.ofNat x := by
        rw [gA_wr, if_neg (by omega)]
        exact g1
      unfold m_Mo_both_74b
      rw [if_neg (by rw [i_le_of (by omega) (by omega)]; omega), ld_of (by rw [gL_wr]; omega) (by omega), e1]
      simp only [Option.bind_some]
      rw [i_add_of, st_of (by rw [gL_wr]; omega) (by omega)]
      simp only [Option.bind_some]
      rw [wr_snoc, i_inc]
      have := ih (u ++ [x]) F (by rw [e, List.append_assoc]; rfl) (by omega)
      rw [List.length_append] at this
      exact this
theorem RL.of {M M1 : MS} (h : RL (gL M)) (e : gL M1 = gL M) : RL (gL M1) := by rw [e]; exact h
theorem d_both {M : MS} {c e l1 : Nat} {a b : List Nat} {r : List (List Nat)} (hl1 : l1 = 98 ∨ l1 = 108) (hL : RL (gL M)) (hD : DInv M c e (a :: b :: r)) (wa : wf a) (wb : wf b) (pa : pr a) (pb : pr b) (wr' : ∀ p ∈ r, wf p) (hlen : a.length + b.length + r.flatten.length < 300) (he : (a ++ b).length + r.flatten.length ≤ e) (he2 : e < 1073741824) (hB : At M l1 (e - (b ++ r.flatten).length) b) :
    ∃ M2, m_Mo_both l1 M = some (M2, ()) ∧ DInv M2 c e ((3 :: (a ++ b)) :: r) ∧ Fr RD FD M M2 := by
  obtain ⟨hS, h9, h10⟩ := hD
  have hS0 := hS
  obtain ⟨⟨a1, a2, a3, a4, a5⟩, ⟨b1, b2, b3, b4, b5⟩, hr2⟩ := hS0
  rw [List.length_cons] at a1 a2 a3 a4
  rw [List.flatten_cons] at a3
  rw [List.length_cons, List.length_cons] at h9
  have hL0 := hL
  obtain ⟨l0, l01, ⟨l2, l3, l4, l5⟩, l6, l7⟩ := hL0
  have wA := wf_DS (c := c) a wa
  have wB := wf_DS (c := c) b wb
  have sA := sm_DS (c := c) wa pa (by omega)
  have sB := sm_DS (c := c) wb pb (by omega)
  have sb := sm_wf wb pb (by omega)
  have hal : 1 ≤ a.length := List.length_pos_iff.mpr (wf_ne wa)
  have hbl : 1 ≤ b.length := List.length_pos_iff.mpr (wf_ne wb)
  have hrl := flat_count wr'
  rw [List.length_append] at he
  rw [List.length_append] at a3 hB
  have hfO : fO c (a :: b :: r) ≤ 45450 := fO_le (fun p hp => by
    rcases List.mem_cons.mp hp with rfl | hp
    · exact wa
    · rcases List.mem_cons.mp hp with rfl | hp
      · exact wb
      · exact wr' p hp) (by rw [List.flatten_cons, List.flatten_cons, List.length_append, List.length_append]; omega)
  have hfO1 := hfO
  rw [fO_cons, fO_cons] at hfO1
  have hfO2 : fO c (b :: r) = (DS c b).length + fO c r := fO_cons _ _ _
  have hk : x_kd l1 = 20 := by rcases hl1 with rfl | rfl <;> decide
  have hk1 : l1 ≠ 101 := by rcases hl1 with rfl | rfl <;> decide
  have hCl := catS_len wA wb
  have hNS : NS (3 :: (a ++ b)) = (NS a && NS b) := by
    have := NS_mk (x := 3) (ps := [a, b]) rfl (fun p hp => by
      simp only [List.mem_cons, List.not_mem_nil, or_false] at hp
      rcases hp with rfl | rfl
      · exact wa
      · exact wb)
    simpa using this
  have hDS := DS_cat (c := c) wa wb (x := 3) rfl
  have hcat := r_cat (M := M) (l1 := 100) (l4 := l1) (i := fO c (b :: r)) (j := e - (b.length + r.flatten.length)) (a := DS c a) (b := b) (by decide) hk (by decide) hk1 wA wb sA sb (pr_3 (pr_DS a wa pa)) a5 hB (by omega) (by omega) (by omega) (by omega)
  have e2 : (Int32.ofNat (r.length + 1 + 1)) - 2 = Int32.ofNat r.length := i_sub_of (b := 2) (by omega) (by omega)
  have e3 : Int32.ofNat (e - r.flatten.length) - Int32.ofNat (e - (b.length + r.flatten.length)) = Int32.ofNat b.length := by
    rw [i_sub_of (by omega) (by omega)]
    congr 1
    omega
  unfold m_Mo_both
  rw [if_pos hk, h9, i_pred (by omega) (by omega), e2, Nat.add_sub_cancel]
  rw [ld_of (by omega) (by omega), a1]
  simp only [Option.bind_some]
  rw [ld_of (by omega) (by omega), a2]
  simp only [Option.bind_some]
  rw [ld_of (by omega) (by omega), a3]
  simp only [Option.bind_some]
  rw [ld_of (by omega) (by omega), b3]
  simp only [Option.bind_some]
  rw [e3, hcat, cal_wr]
  have hfw : Fr [101, 106, 107] [(97, 9), (97, 10), (97, 13)] M (wr M 101 0 (catS (DS c a) b)) := Fr.wr (by decide)
  rw [ld_of (by rw [gL_wr]; omega) (by omega), show gA (wr M 101 0 (catS (DS c a) b)) 105 (r.length + 1) = b01 (NS a) by rw [hfw.ga (by decide)]; exact a4]
  simp only [Option.bind_some]
  have hC0 : At (wr M 101 0 (catS (DS c a) b)) 101 0 (catS (DS c a) b) := At_wr0 l01 (by omega)
  have wC := wf_catS wA wb
  have sC := sm_catS wA sA sb
  cases hna : NS a with
  | false =>
    rw [if_pos (by decide)]
    rw [hna] at hDS
    simp only [Bool.false_eq_true, if_false] at hDS
    have h := r_both153 (M := wr M 101 0 (catS (DS c a) b)) (p := 3 :: (a ++ b)) hL (SI.df (DF.of hfw) (Nat.le_refl _) hS) hNS (by rw [hDS]; exact hC0) (by rw [hDS]; omega) (by omega)
    rw [hDS] at h
    obtain ⟨M2, q1, q2, q3⟩ := h
    exact ⟨M2, q1, q2, (hfw.mono (by decide) (by decide)).tr q3⟩
  | true =>
    rw [if_neg (by decide)]
    rw [hna] at hDS
    simp only [if_true] at hDS
    have h10' : gI (wr M 101 0 (catS (DS c a) b)) 97 10 = Int32.ofNat (fO c (a :: b :: r)) := h10
    rw [h10']
    unfold m_Mo_both_74
    have h74 := r_both74 (M := wr M 101 0 (catS (DS c a) b)) (fill := fO c (a :: b :: r)) (l2 := Int32.ofNat (r.length + 1)) (l3 := Int32.ofNat r.length) (catS (DS c a) b) l0 hC0 (by omega) (catS (DS c a) b) [] FU rfl (by unfold FU; omega)
    rw [wr_nil] at h74
    have hgo : ∃ M2, m_Mo_both_104 (Int32.ofNat (r.length + 1)) (Int32.ofNat r.length) (Int32.ofNat (catS (DS c a) b).length) (Int32.ofNat (fO c (a :: b :: r))) (wr (wr M 101 0 (catS (DS c a) b)) 100 (fO c (a :: b :: r)) (catS (DS c a) b)) = some (M2, ()) ∧ DInv M2 c e ((3 :: (a ++ b)) :: r) ∧ Fr RD FD M M2 := by
      generalize hM2 : wr (wr M 101 0 (catS (DS c a) b)) 100 (fO c (a :: b :: r)) (catS (DS c a) b) = M2
      have hdf2 : DF (fO c (a :: b :: r)) M M2 := by
        rw [← hM2]
        exact (DF.of hfw).tr (DF.wr (Nat.le_refl _))
      have hAC : At M2 100 (fO c (a :: b :: r)) (catS (DS c a) b) := by
        rw [← hM2]
        exact At_wr (by rw [gL_wr]; omega)
      have hfx : gI M2 97 10 = Int32.ofNat (fO c (a :: b :: r)) := by rw [← hM2]; exact h10
      clear hM2 h74
      unfold m_Mo_both_104
      simp only [Option.bind_some]
      rw [hfx, i_add_of]
      generalize hM3 : sI (sI M2 97 10 (Int32.ofNat (fO c (a :: b :: r) + (catS (DS c a) b).length))) 97 13 0 = M3
      have hfr3 : Fr [101, 106, 107] [(97, 9), (97, 10), (97, 13)] M2 M3 := by
        rw [← hM3]
        exact (Fr.stI (by decide)).tr (Fr.stI (by decide))
      have h13 : gI M3 97 13 = Int32.ofNat ([] : List (Nat × List Nat)).length := by rw [← hM3, gI_sI, if_pos ⟨rfl, rfl⟩]; rfl
      have h103 : gI M3 97 10 = Int32.ofNat (fO c (a :: b :: r) + (catS (DS c a) b).length) := by rw [← hM3, gI_sI, if_neg (by omega), gI_sI, if_pos ⟨rfl, rfl⟩]
      have hdf3 : DF (fO c (a :: b :: r)) M M3 := hdf2.tr (DF.of hfr3)
      have hL3 := hL.of hdf3.1.ln
      have hAC3 := hAC.fr hfr3 (by decide)
      clear hM3
      have hptC : (pt 4 (catS (DS c a) b)).length ≤ 600 := pt_catS (k := 0) (Or.inl rfl) wA (Nat.le_trans (pt_DS_cnt (Or.inl rfl) wa pa) (by omega)) (Nat.le_trans (pt_cnt wb) (by omega)) (by omega)
      have hptB : (pt 4 (DS c b)).length ≤ 600 := Nat.le_trans (pt_DS_cnt (Or.inl rfl) wb pb) (by omega)
      obtain ⟨M4, p1, p2, p3, p4⟩ := d_part (M := M3) (s := 4) (P := []) (by omega) wC sC hAC3 (fun i q h => by simp at h) h13 hL3 (by simp only [List.length_nil]; omega)
      have p1' : m_Mo_part (Int32.ofNat (fO c (a :: b :: r))) (Int32.ofNat (catS (DS c a) b).length) (4 : Int32) M3 = some (M4, ()) := p1
      rw [cal_some p1' p4.le.1 p4.le.2]
      rw [List.nil_append] at p2 p3
      have hdf4 : DF (fO c (a :: b :: r)) M M4 := hdf3.tr (DF.of (p4.mono (by decide) (by decide)))
      have hL4 := hL.of hdf4.1.ln
      have hL4' := hdf4.1.ln
      rw [ld_of (by rw [hL4']; omega) (by omega), show gA M4 102 r.length = Int32.ofNat (fO c r) by rw [hdf4.1.ga (by decide)]; exact b1]
      simp only [Option.bind_some]
      rw [ld_of (by rw [hL4']; omega) (by omega), show gA M4 103 r.length = Int32.ofNat (DS c b).length by rw [hdf4.1.ga (by decide)]; exact b2]
      simp only [Option.bind_some]
      have hlA : (ptA 4 (fO c (a :: b :: r)) (catS (DS c a) b)).length = (pt 4 (catS (DS c a) b)).length := by rw [← ptA_snd 4 (fO c (a :: b :: r)), List.length_map]
      have hlB : (ptA 4 (fO c r) (DS c b)).length = (pt 4 (DS c b)).length := by rw [← ptA_snd 4 (fO c r), List.length_map]
      have hAB4 : At M4 100 (fO c r) (DS c b) := hdf4.at (by rw [fO_cons, fO_cons]; omega) b5
      obtain ⟨M5, u1, u2, u3, u4⟩ := d_part (M := M4) (s := 4) (by omega) wB sB hAB4 p2 p3 hL4 (by omega)
      have u1' : m_Mo_part (Int32.ofNat (fO c r)) (Int32.ofNat (DS c b).length) (4 : Int32) M4 = some (M5, ()) := u1
      rw [cal_some u1' u4.le.1 u4.le.2]
      have hdf5 : DF (fO c (a :: b :: r)) M M5 := hdf4.tr (DF.of (u4.mono (by decide) (by decide)))
      have hL5 := hL.of hdf5.1.ln
      have hmap : (ptA 4 (fO c (a :: b :: r)) (catS (DS c a) b) ++ ptA 4 (fO c r) (DS c b)).map Prod.snd = pt 4 (catS (DS c a) b) ++ pt 4 (DS c b) := by rw [List.map_append, ptA_snd, ptA_snd]
      have hAC5 : At M5 100 (fO c (a :: b :: r)) (catS (DS c a) b) := (hAC3.fr p4 (by decide)).fr u4 (by decide)
      have hAB5 : At M5 100 (fO c r) (DS c b) := hAB4.fr u4 (by decide)
      have hl1 := pt_len (s := 4) wC
      have hl2 := pt_len (s := 4) wB
      obtain ⟨M6, v1, v2, v3⟩ := r_unite (M := M5) (s := 4) (fill := fO c (a :: b :: r) + (catS (DS c a) b).length) (Or.inl rfl) hL5.2.2.2.1 hL5.2.2.2.2 hL5.1 hL5.2.1 u3 (by rw [List.length_append]; omega) (by rw [u4.gi (by decide), p4.gi (by decide)]; exact h103) (by omega) u2 (fun d hd => by
        rcases List.mem_append.mp hd with h | h
        · have hm : d.2 ∈ pt 4 (catS (DS c a) b) := by rw [← ptA_snd 4 (fO c (a :: b :: r))]; exact List.mem_map.mpr ⟨d, h, rfl⟩
          exact ⟨pt_wf wC _ hm, fun x hx => sC x (pt_sub wC hm x hx), (ptA_at wC hAC5 d h).2⟩
        · have hm : d.2 ∈ pt 4 (DS c b) := by rw [← ptA_snd 4 (fO c r)]; exact List.mem_map.mpr ⟨d, h, rfl⟩
          have := (ptA_at wB hAB5 d h).2
          exact ⟨pt_wf wB _ hm, fun x hx => sB x (pt_sub wB hm x hx), by rw [fO_cons, fO_cons]; omega⟩) (by rw [hmap, List.flatten_append, List.length_append]; omega)
      rw [hmap, ← hDS] at v1 v2
      have v1' : m_Mo_unite (4 : Int32) M5 = some (M6, Int32.ofNat (DS c (3 :: (a ++ b))).length) := v1
      rw [cal_some v1' v3.1.le.1 v3.1.le.2]
      have hdf6 : DF (fO c (a :: b :: r)) M M6 := hdf5.tr (v3.df.mono (by omega))
      have hlD := DS_len (c := c) (3 :: (a ++ b)) (wf_cat2 wa wb)
      have hlD2 : (3 :: (a ++ b)).length * ((3 :: (a ++ b)).length + 3) ≤ 300 * 303 := Nat.mul_le_mul (by rw [List.length_cons, List.length_append]; omega) (by rw [List.length_cons, List.length_append]; omega)
      obtain ⟨M7, w1, w2, w3⟩ := r_both153 (M := M6) (p := 3 :: (a ++ b)) (hL.of hdf6.1.ln) (SI.df hdf6 (Nat.le_refl _) hS) hNS v2 (by omega) (by omega)
      exact ⟨M7, w1, w2, hdf6.fr.tr w3⟩
    obtain ⟨M2, g1, g2⟩ := hgo
    exact ⟨M2, h74.trans g1, g2⟩
