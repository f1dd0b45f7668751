/-! STEP 2: the reference's several -/
def eS (s : Nat) (emp : Bool) (W : List (List Nat)) : Bool := if s = 5 then emp && W.all NS else emp || W.any NS
def eS1 (s : Nat) (emp b : Bool) : Bool := if s = 5 then emp && b else emp || b
theorem eS_cons (s : Nat) (emp : Bool) (q : List Nat) (W : List (List Nat)) : eS s emp (q :: W) = eS s (eS1 s emp (NS q)) W := by
  unfold eS eS1
  split
  · rw [List.all_cons, Bool.and_assoc]
  · rw [List.any_cons, Bool.or_assoc]
theorem r_several27 {c e s : Nat} {l3 : Int32} {Z : List (List Nat)} (hs : s = 4 ∨ s = 5) (wZ : ∀ p ∈ Z, wf p) (pZ : ∀ p ∈ Z, pr p) (hZ : Z.flatten.length ≤ 300) : ∀ (W Y : List (List Nat)) (M : MS) (P : List (Nat × List Nat)) (emp : Bool) (F : Nat), Z = W.reverse ++ Y → RL (gL M) → SI M c e Z → gI M 97 9 = Int32.ofNat Z.length → PL M 0 P → gI M 97 13 = Int32.ofNat P.length → P.length + 2 * W.flatten.length ≤ 4000 → W.length < F →
    ∃ M1 Q, fx (fun (k : Int32 × Int32 × Int32 × Int32 × MS → Option (MS × Unit)) (i : Int32 × Int32 × Int32 × Int32 × MS) => m_Mo_several_27b k i.1 i.2.1 i.2.2.1 i.2.2.2.1 i.2.2.2.2) F (Int32.ofNat s, l3, b01 emp, Int32.ofNat Y.length, M) = m_Mo_several_111 (Int32.ofNat s) l3 (b01 (eS s emp W)) M1 ∧ PL M1 0 (P ++ Q) ∧ gI M1 97 13 = Int32.ofNat (P ++ Q).length ∧ Q.map Prod.snd = (W.map (fun q => pt s (DS c q))).flatten ∧ (∀ d ∈ Q, wf d.2 ∧ sm d.2 ∧ d.1 + d.2.length ≤ fO c Z) ∧ Fr [106, 107] [(97, 13)] M M1 := by
  have hZl := flat_count wZ
  have hfZ := fO_le (c := c) wZ hZ
  intro W
  induction W with
  | nil =>
    intro Y M P emp F hE hL hS h9 hP h13 hc hF
    rw [List.reverse_nil, List.nil_append] at hE
    subst hE
    cases F with
    | zero => simp at hF
    | succ F =>
      show ∃ M1 Q, m_Mo_several_27b _ (Int32.ofNat s) l3 (b01 emp) (Int32.ofNat Z.length) M = _ ∧ _
      unfold m_Mo_several_27b
      rw [h9, if_pos (Int32.le_refl _)]
      refine ⟨M, [], ?_, ?_, ?_, rfl, (fun d hd => by cases hd), Fr.rf⟩
      · congr 1
        unfold eS
        simp
      · rw [List.append_nil]; exact hP
      · rw [List.append_nil]; exact h13
  | cons q W ih =>
    intro Y M P emp F hE hL hS h9 hP h13 hc hF
    have hE2 : Z = W.reverse ++ (q :: Y) := by rw [hE, List.reverse_cons, List.append_assoc]; rfl
    have hq : q ∈ Z := by rw [hE2]; exact List.mem_append_right _ List.mem_cons_self
    have hlZ : Z.length = W.length + (Y.length + 1) := by rw [hE2, List.length_append, List.length_reverse, List.length_cons]
    have hS2 : SI M c e (q :: Y) := SI.app (a := W.reverse) (by rw [← hE2]; exact hS)
    obtain ⟨⟨a1, a2, a3, a4, a5⟩, -⟩ := hS2
    have hfq : fO c Y + (DS c q).length ≤ fO c Z := by rw [hE2, fO_app, fO_cons]; omega
    have hql : q.length ≤ 300 := Nat.le_trans (mem_flatten_len hq) hZ
    have wq := wZ q hq
    have wD := wf_DS (c := c) q wq
    have sD := sm_DS (c := c) wq (pZ q hq) hql
    have hcnt := pt_DS_cnt (c := c) hs wq (pZ q hq)
    rw [List.flatten_cons, List.length_append] at hc
    rw [List.length_cons] at hF
    have hL0 := hL
    obtain ⟨l0, l01, ⟨l2, l3', l4, l5⟩, l6, l7⟩ := hL0
    have hs8 : s < 8 := by omega
    obtain ⟨M1, p1, p2, p3, p4⟩ := d_part (M := M) (s := s) hs8 wD sD a5 hP h13 hL (by omega)
    have hlA : (ptA s (fO c Y) (DS c q)).length = (pt s (DS c q)).length := by rw [← ptA_snd s (fO c Y), List.length_map]
    have hdf : DF (fO c Z) M M1 := DF.of (p4.mono (by decide) (by decide))
    cases F with
    | zero => omega
    | succ F =>
      obtain ⟨M2, Q, g1, g2, g3, g4, g5, g6⟩ := ih (q :: Y) M1 (P ++ ptA s (fO c Y) (DS c q)) (eS1 s emp (NS q)) F hE2 (hL.of p4.ln) (SI.df hdf (Nat.le_refl _) hS) (by rw [p4.gi (by decide)]; exact h9) p2 p3 (by rw [List.length_append]; omega) (by omega)
      refine ⟨M2, ptA s (fO c Y) (DS c q) ++ Q, ?_, by rw [← List.append_assoc]; exact g2, by rw [← List.append_assoc]; exact g3, by rw [List.map_append, ptA_snd, g4]; rfl, fun d hd => ?_, p4.tr g6⟩
      · rw [eS_cons]
        refine Eq.trans ?_ g1
        show m_Mo_several_27b _ (Int32.ofNat s) l3 (b01 emp) (Int32.ofNat Y.length) M = _
        unfold m_Mo_several_27b
        rw [h9, if_neg (by rw [i_le_of (by omega) (by omega)]; omega), ld_of (by omega) (by omega), a1]
        simp only [Option.bind_some]
        rw [ld_of (by omega) (by omega), a2]
        simp only [Option.bind_some]
        rw [cal_some p1 p4.le.1 p4.le.2]
        have e5 : gA M1 105 Y.length = b01 (NS q) := by rw [p4.ga (by decide)]; exact a4
        have e5l : Y.length < gL M1 105 := by rw [p4.ln]; omega
        rw [i_inc]
        rcases hs with rfl | rfl
        · rw [if_pos (by decide)]
          cases emp with
          | true =>
            rw [if_pos (by decide)]
            rfl
          | false =>
            rw [if_neg (by decide), ld_of e5l (by omega), e5]
            simp only [Option.bind_some]
            cases hN : NS q with
            | true => rw [if_neg (by decide)]; rfl
            | false => rw [if_pos (by decide)]; rfl
        · rw [if_neg (by decide)]
          cases emp with
          | false =>
            rw [if_pos (by decide)]
            rfl
          | true =>
            rw [if_neg (by decide), ld_of e5l (by omega), e5]
            simp only [Option.bind_some]
            cases hN : NS q with
            | true => rw [if_neg (by decide)]; rfl
            | false => rw [if_pos (by decide)]; rfl
      · rcases List.mem_append.mp hd with h | h
        · have hm : d.2 ∈ pt s (DS c q) := by rw [← ptA_snd s (fO c Y)]; exact List.mem_map.mpr ⟨d, h, rfl⟩
          have := (ptA_at wD a5 d h).2
          exact ⟨pt_wf wD _ hm, fun x hx => sD x (pt_sub wD hm x hx), by omega⟩
        · exact g5 d h
theorem sumpt {c s : Nat} {B : Nat} : ∀ (W : List (List Nat)), (∀ p ∈ W, wf p) → ((W.map (fun q => pt s (DS c q))).flatten).flatten.length ≤ fO c W := by
  intro W
  induction W with
  | nil => intro _; simp [fO]
  | cons p W ih =>
    intro h
    have h1 := ih (fun q hq => h q (List.mem_cons_of_mem _ hq))
    have h2 := pt_len (s := s) (wf_DS (c := c) p (h p List.mem_cons_self))
    rw [List.map_cons, List.flatten_cons, List.flatten_append, List.length_append, fO_cons]
    omega
theorem d_several {M : MS} {c e x : Nat} {ks r : List (List Nat)} (hx : x % 8 = 4 ∨ x % 8 = 5) (hn : ar x = ks.length) (hne : 1 ≤ ks.length) (hL : RL (gL M)) (hD : DInv M c e (ks ++ r)) (wZ : ∀ p ∈ ks ++ r, wf p) (pZ : ∀ p ∈ ks ++ r, pr p) (hlen : (ks ++ r).flatten.length < 300) :
    ∃ M2, m_Mo_several (Int32.ofNat (x % 8)) (Int32.ofNat (x / 8)) M = some (M2, ()) ∧ DInv M2 c e ((x :: ks.flatten) :: r) ∧ Fr RD FD M M2 := by
  obtain ⟨hS, h9, h10⟩ := hD
  have hZl := flat_count wZ
  have hfZ := fO_le (c := c) wZ (by omega)
  have hZl2 := hZl
  rw [List.flatten_append, List.length_append, List.length_append] at hZl2
  have hL0 := hL
  obtain ⟨l0, l01, ⟨l2, l3', l4, l5⟩, l6, l7⟩ := hL0
  have hn2 := hn
  rw [ar_n hx] at hn2
  have wks : ∀ p ∈ ks, wf p := fun p hp => wZ p (List.mem_append_left _ hp)
  have hlow : gI M 97 9 - Int32.ofNat (x / 8) = Int32.ofNat r.length := by
    rw [h9, hn2, i_sub_of (by omega) (by rw [List.length_append]; omega), List.length_append, Nat.add_sub_cancel_left]
  have hfr0 : Fr [106, 107] [(97, 13)] M (sI M 97 13 0) := Fr.stI (by decide)
  have hdf0 : DF (fO c (ks ++ r)) M (sI M 97 13 0) := DF.of (hfr0.mono (by decide) (by decide))
  have hflr : ks.reverse.flatten.length = ks.flatten.length := (List.reverse_perm ks).flatten.length_eq
  rw [List.flatten_append, List.length_append] at hlen
  obtain ⟨M1, Q, g1, g2, g3, g4, g5, g6⟩ := r_several27 (c := c) (e := e) (l3 := Int32.ofNat r.length) (Z := ks ++ r) hx wZ pZ (by rw [List.flatten_append, List.length_append]; omega) ks.reverse r (sI M 97 13 0) [] (decide (x % 8 = 5)) FU (by rw [List.reverse_reverse]) hL (SI.df hdf0 (Nat.le_refl _) hS) (by rw [hfr0.gi (by decide)]; exact h9) (fun i q h => by simp at h) (by rw [gI_sI, if_pos ⟨rfl, rfl⟩]; rfl) (by rw [hflr]; simp only [List.length_nil]; omega) (by rw [List.length_reverse]; unfold FU; omega)
  rw [List.nil_append] at g2 g3
  have hdf1 : DF (fO c (ks ++ r)) M M1 := hdf0.tr (DF.of (g6.mono (by decide) (by decide)))
  have hL1 := hL.of hdf1.1.ln
  have hperm : ((ks.reverse.map (fun q => pt (x % 8) (DS c q))).flatten).Perm ((ks.map (fun q => pt (x % 8) (DS c q))).flatten) := ((List.reverse_perm ks).map _).flatten
  have hDS := DS_several (c := c) hn wks hx
  rw [← uni_perm hperm, ← g4] at hDS
  have hNS : NS (x :: ks.flatten) = eS (x % 8) (decide (x % 8 = 5)) ks.reverse := by
    rw [NS_mk hn wks]
    unfold eS
    rcases hx with h | h
    · rw [h]
      simp
    · rw [h]
      simp
  have hsum := sumpt (c := c) (s := x % 8) (B := 0) ks wks
  have hfks : fO c ks + fO c r = fO c (ks ++ r) := (fO_app _ _ _).symm
  have hpl : (Q.map Prod.snd).flatten.length ≤ fO c ks := by
    rw [g4]
    have := hperm.flatten.length_eq
    omega
  have hQl : Q.length ≤ (Q.map Prod.snd).flatten.length := by
    have := flat_count (ps := Q.map Prod.snd) (fun p hp => by
      obtain ⟨d, hd, rfl⟩ := List.mem_map.mp hp
      exact (g5 d hd).1)
    rw [List.length_map] at this
    exact this
  have hQl2 : Q.length ≤ 2 * ks.flatten.length := by
    have h1 : Q.length = (ks.reverse.map (fun q => pt (x % 8) (DS c q))).flatten.length := by rw [← g4, List.length_map]
    rw [h1, hperm.length_eq]
    have q : ∀ W : List (List Nat), (∀ p ∈ W, wf p) → (∀ p ∈ W, pr p) → (W.map (fun q => pt (x % 8) (DS c q))).flatten.length ≤ 2 * W.flatten.length := by
      intro W
      induction W with
      | nil => intro _ _; simp
      | cons p W ih =>
        intro h1 h2
        have h3 := ih (fun q hq => h1 q (List.mem_cons_of_mem _ hq)) (fun q hq => h2 q (List.mem_cons_of_mem _ hq))
        have h4 := pt_DS_cnt (c := c) hx (h1 p List.mem_cons_self) (h2 p List.mem_cons_self)
        rw [List.map_cons, List.flatten_cons, List.length_append, List.flatten_cons, List.length_append]
        omega
    exact q ks wks (fun p hp => pZ p (List.mem_append_left _ hp))
  obtain ⟨M2, u1, u2, u3⟩ := r_unite (M := M1) (s := x % 8) (fill := fO c (ks ++ r)) hx hL1.2.2.2.1 hL1.2.2.2.2 hL1.1 hL1.2.1 g3 (by omega) (by rw [g6.gi (by decide), hfr0.gi (by decide)]; exact h10) (by omega) g2 g5 (by omega)
  rw [← hDS] at u1 u2
  have hdf2 : DF (fO c (ks ++ r)) M M2 := hdf1.tr u3.df
  have hL2 := hL.of hdf2.1.ln
  -- the lowest of the parts tells where the new one begins and ends
  obtain ⟨ks', z, rfl⟩ : ∃ ks' z, ks = ks' ++ [z] := by
    rcases List.eq_nil_or_concat ks with h | ⟨a, b, h⟩
    · rw [h] at hne; simp at hne
    · exact ⟨a, b, by rw [h, List.concat_eq_append]⟩
  have hSz : SI M c e (z :: r) := SI.app (a := ks') (by rw [List.append_assoc] at hS; exact hS)
  obtain ⟨⟨z1, z2, z3, z4, z5⟩, hSr⟩ := hSz
  generalize hks : ks' ++ [z] = ks at *
  have hrl : r.length < 300 := by omega
  have hfr3 : Fr [101, 106, 107] [(97, 9), (97, 10), (97, 13)] M2 (sI M2 97 9 (Int32.ofNat r.length)) := Fr.stI (by decide)
  have hdf3 : DF (fO c (ks ++ r)) M (sI M2 97 9 (Int32.ofNat r.length)) := hdf2.tr (DF.of hfr3)
  have hlD := DS_len (c := c) (x :: ks.flatten) (wf_mk hn wks)
  have hlD2 : (x :: ks.flatten).length * ((x :: ks.flatten).length + 3) ≤ 300 * 303 := Nat.mul_le_mul (by rw [List.length_cons]; omega) (by rw [List.length_cons]; omega)
  obtain ⟨M4, w1, w2, w3⟩ := d_place (M := sI M2 97 9 (Int32.ofNat r.length)) (c := c) (e := e) (p := x :: ks.flatten) (r := r) (l3 := Int32.ofNat (e - r.flatten.length)) (l4 := b01 (eS (x % 8) (decide (x % 8 = 5)) ks.reverse)) (hL.of hdf3.1.ln) (SI.df (hdf3.mono (by rw [fO_app]; omega)) (Nat.le_refl _) hSr) (by rw [gI_sI, if_pos ⟨rfl, rfl⟩]) u2 (by omega) (by omega) rfl (by rw [hNS])
  refine ⟨M4, ?_, w2, hdf3.fr.tr w3⟩
  have hend : m_Mo_several_111 (Int32.ofNat (x % 8)) (Int32.ofNat r.length) (b01 (eS (x % 8) (decide (x % 8 = 5)) ks.reverse)) M1 = some (M4, ()) := by
    unfold m_Mo_several_111
    rw [cal_some u1 u3.1.le.1 u3.1.le.2]
    have hl2' := hdf2.1.ln
    rw [ld_of (by rw [hl2']; omega) (by omega), show gA M2 104 r.length = Int32.ofNat (e - r.flatten.length) by rw [hdf2.1.ga (by decide)]; exact z3]
    simp only [Option.bind_some]
    rw [ld_of (by show _ < gL M2 102; rw [hl2']; omega) (by omega), show gA (sI M2 97 9 (Int32.ofNat r.length)) 102 r.length = Int32.ofNat (fO c r) by rw [hdf3.1.ga (by decide)]; exact z1]
    simp only [Option.bind_some]
    rw [cal_some w1 w3.le.1 w3.le.2]
  have hgo := g1.trans hend
  unfold m_Mo_several
  rcases hx with h | h
  · rw [h] at hgo ⊢
    rw [if_pos (by decide), hlow]
    exact hgo
  · rw [h] at hgo ⊢
    rw [if_neg (by decide), hlow]
    exact hgo
