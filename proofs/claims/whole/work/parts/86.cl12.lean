/-! STEP 2, the class: both and cat -/
theorem kdP_len {g : TG} (h : TB g) {s i : Nat} (hs : s = 4 ∨ s = 5) (hi : i < tU g) : (kdP g s i).length ≤ (ttx g i).length := by
  have h1 := (h.ptP hs hi).length_eq
  rw [List.length_map] at h1
  rw [h1]
  exact pt_cnt (h.wf hi)
theorem kdP_lt {g : TG} (h : TB g) {s i : Nat} (hi : i < tU g) : ∀ k ∈ kdP g s i, k < tU g := by
  intro k hk
  unfold kdP at hk
  split at hk
  · exact Nat.lt_trans (h.kids hi k hk) hi
  · rw [List.mem_singleton.mp hk]; exact hi
theorem kdP_flat {g : TG} (h : TB g) {s i : Nat} (hs : s = 4 ∨ s = 5) (hi : i < tU g) : ((kdP g s i).map (ttx g)).flatten.length ≤ (ttx g i).length := by
  rw [(h.ptP hs hi).flatten.length_eq]
  exact pt_len (h.wf hi)
/-- OR or AND of two -/
theorem c_both {g : TG} {M : MS} {s a b : Nat} (h : TI g M) (hr : RO M) (hG : GD M) (hs : s = 4 ∨ s = 5) (ha : a < tU g) (hb : b < tU g) (hla : (ttx g a).length + (ttx g b).length ≤ 80000) (hU : tU g < 131072) (hK : tKU g + ((ttx g a).length + (ttx g b).length) + 1 ≤ 500000) :
    NR g M (uni s (pt s (ttx g a) ++ pt s (ttx g b))) 1 ((ttx g a).length + (ttx g b).length + 1) (m_Terms_both (Int32.ofNat s) (Int32.ofNat a) (Int32.ofNat b) M) := by
  have ka := kdP_len h.1 hs ha
  have kb := kdP_len h.1 hs hb
  have fa := kdP_flat h.1 hs ha
  have fb := kdP_flat h.1 hs hb
  obtain ⟨-, -, ⟨l3, r3⟩, -, -, r6, -⟩ := id hr
  obtain ⟨M1, b1, b2, b3⟩ := c_begin (s := s) r3
  have b3' : FC [23] FGa M M1 := b3
  have g1 : gL M1 23 = gL M 23 := by
    have := b1
    unfold m_Gathering_begin at this
    obtain ⟨c1, c2, c3⟩ := c_clear isR22 r3
    rw [c1, cal_sI] at this
    simp only [Option.bind_some, Option.some.injEq, Prod.mk.injEq, and_true] at this
    rw [← this]
    rfl
  have hI1 := h.ga b3'
  have hr1 := hr.ga b3' b2.2.2.2 (by rw [g1]; exact r6)
  obtain ⟨M2, c1, c2, c3, c4, c5⟩ := c_gather (T := []) hI1 hs b2 (hG.fc b3) ha (fun k hk => by cases hk) (by simp; omega)
  rw [List.nil_append] at c2
  rw [List.length_nil, Nat.zero_add] at c5
  have hr2 := hr1.ga c4 c2.2.2.2 (by omega)
  obtain ⟨M3, d1, d2, d3, d4, d5⟩ := c_gather (T := kdP g s a) c3 hs c2 ((hG.fc b3).fc c4) hb (kdP_lt h.1 ha) (by omega)
  have hr3 := hr2.ga d4 d2.2.2.2 (by omega)
  have hGM3 := ((hG.fc b3).fc c4).fc d4
  obtain ⟨M4, g', i, e1, e2, e3, e4, e5, e6, e7, e8, e9, e10⟩ := c_gathered d3 hr3 hGM3 hs d2 (fun k hk => by
    rcases List.mem_append.mp hk with q | q
    · exact kdP_lt h.1 ha k q
    · exact kdP_lt h.1 hb k q) (by rw [List.length_append]; omega) (by rw [List.map_append, List.flatten_append, List.length_append]; omega) hU (by rw [List.length_append]; omega)
  have hp : ((kdP g s a ++ kdP g s b).map (ttx g)).Perm (pt s (ttx g a) ++ pt s (ttx g b)) := by
    rw [List.map_append]
    exact (h.1.ptP hs ha).append (h.1.ptP hs hb)
  rw [uni_perm hp] at e5
  rw [List.length_append] at e7
  unfold m_Terms_both
  rw [cal_some b1 b3.le.1 b3.le.2, cal_some c1 c4.le.1 c4.le.2, cal_some d1 d4.le.1 d4.le.2, cal_some e1 e8.le.1 e8.le.2]
  have m : ∀ {A B : MS}, FC [23] FGa A B → FC RN FN A B := fun q => q.mono (by decide) (by decide)
  exact ⟨M4, g', i, rfl, e2, e3, e4, e5, e6, by omega, (((m b3').tr (m c4)).tr (m d4)).tr e8, e9, fun p hp => (e10 p hp).trans (by rw [d4.ga (by decide), c4.ga (by decide), b3'.ga (by decide)])⟩
/-! cat -/
def spI (g : TG) (f i : Nat) : List Nat := match f with
  | 0 => [i]
  | f + 1 => if tso g i = 3 then (tkd g i).getD 0 0 :: spI g f ((tkd g i).getD 1 0) else [i]
def catL (ts : List (List Nat)) (b : List Nat) : List Nat := ts.foldr (fun t acc => 3 :: (t ++ acc)) b
theorem TB.cat2 {g : TG} (h : TB g) {i : Nat} (hi : i < tU g) (h3 : tso g i = 3) : ∃ p q, tkd g i = [p, q] ∧ p < i ∧ q < i ∧ tso g p ≠ 3 ∧ ttx g i = 3 :: (ttx g p ++ ttx g q) ∧ 18 ≤ i := by
  have h18 : 18 ≤ i := by
    refine Classical.byContradiction (fun hq => ?_)
    by_cases h17 : i = 17
    · rw [h17, h.2.2.2.1.1] at h3; omega
    · by_cases h16 : i = 16
      · rw [h16, h.2.2.1.1] at h3; omega
      · rw [(h.2.1 i (by omega)).1] at h3
        split at h3 <;> omega
  obtain ⟨b1, b2, b3⟩ := h.2.2.2.2.1 i h18 hi
  rw [h3] at b1 b3
  rcases b1 with ⟨-, p, q, q1, q2⟩ | q | q | q
  · refine ⟨p, q, q1, b2 p (by rw [q1]; simp), b2 q (by rw [q1]; simp), q2, ?_, h18⟩
    rw [b3, q1]
    simp [txF]
  · omega
  · omega
  · omega
theorem spI_ok {g : TG} (h : TB g) : ∀ (f i : Nat), i < tU g → i ≤ f → (∀ k ∈ spI g f i, k < tU g ∧ tso g k ≠ 3) ∧ (spI g f i).length ≤ (ttx g i).length ∧ (∀ n b, (ttx g i).length ≤ n → catF n (ttx g i) b = catL ((spI g f i).map (ttx g)) b) := by
  intro f
  induction f with
  | zero =>
    intro i hi hf
    have h0 : i = 0 := by omega
    subst h0
    have hso : tso g 0 = 0 := (h.2.1 0 (by omega)).1
    refine ⟨fun k hk => ?_, ?_, fun n b hn => ?_⟩
    · rw [List.mem_singleton.mp hk]
      exact ⟨hi, by omega⟩
    · rw [h.t0]; exact Nat.le_refl _
    · show catF n (ttx g 0) b = 3 :: (ttx g 0 ++ b)
      rw [h.t0]
      cases n with
      | zero => rfl
      | succ n => rfl
  | succ f ih =>
    intro i hi hf
    unfold spI
    by_cases h3 : tso g i = 3
    · rw [if_pos h3]
      obtain ⟨p, q, e1, e2, e3, e4, e5, e6⟩ := h.cat2 hi h3
      have hg0 : (tkd g i).getD 0 0 = p := by rw [e1]; rfl
      have hg1 : (tkd g i).getD 1 0 = q := by rw [e1]; rfl
      rw [hg0, hg1]
      obtain ⟨a1, a2, a3⟩ := ih q (by omega) (by omega)
      have hpl : 1 ≤ (ttx g p).length := List.length_pos_iff.mpr (wf_ne (h.wf (by omega)))
      refine ⟨fun k hk => ?_, ?_, fun n b hn => ?_⟩
      · rcases List.mem_cons.mp hk with rfl | hk
        · exact ⟨by omega, e4⟩
        · exact a1 k hk
      · rw [e5, List.length_cons, List.length_cons, List.length_append]
        omega
      · rw [e5, List.length_cons, List.length_append] at hn
        cases n with
        | zero => omega
        | succ n =>
          have hpts : pts (3 :: (ttx g p ++ ttx g q)) = [ttx g p, ttx g q] := by
            have := pts_mk (x := 3) (ps := [ttx g p, ttx g q]) rfl (fun t ht => by
              simp only [List.mem_cons, List.not_mem_nil, or_false] at ht
              rcases ht with rfl | rfl
              · exact h.wf (by omega)
              · exact h.wf (by omega))
            simpa using this
          rw [e5]
          show (if hd (3 :: (ttx g p ++ ttx g q)) = 3 then 3 :: ((pts (3 :: (ttx g p ++ ttx g q))).headD [] ++ catF n ((pts (3 :: (ttx g p ++ ttx g q))).getLastD []) b) else 3 :: (3 :: (ttx g p ++ ttx g q) ++ b)) = _
          rw [if_pos (show hd (3 :: (ttx g p ++ ttx g q)) = 3 from rfl), hpts]
          show 3 :: (ttx g p ++ catF n (ttx g q) b) = 3 :: (ttx g p ++ catL ((spI g f q).map (ttx g)) b)
          rw [a3 n b (by omega)]
    · rw [if_neg h3]
      refine ⟨fun k hk => ?_, ?_, fun n b hn => ?_⟩
      · rw [List.mem_singleton.mp hk]
        exact ⟨hi, h3⟩
      · exact List.length_pos_iff.mpr (wf_ne (h.wf hi))
      · have hhd : ¬ hd (ttx g i) = 3 := fun q => h3 ((so_hd h hi (Or.inl rfl)).mpr q)
        show catF n (ttx g i) b = 3 :: (ttx g i ++ b)
        cases n with
        | zero => rfl
        | succ n =>
          show (if hd (ttx g i) = 3 then _ else 3 :: (ttx g i ++ b)) = _
          rw [if_neg hhd]
/-- the spine is put into its row -/
theorem c_cat38 {g : TG} {b : Nat} : ∀ (f i st : Nat) (M : MS) (l : List Nat) (F : Nat), TI g M → RO M → GD M → RW M 17 18 l → i < tU g → i ≤ f → l.length + (ttx g i).length ≤ 50000 → st + i < 1000000 → i < F →
    ∃ M1, fx (fun (k : Int32 × Int32 × Int32 × MS → Option (MS × Int32)) (i : Int32 × Int32 × Int32 × MS) => m_Terms_cat_38b k i.1 i.2.1 i.2.2.1 i.2.2.2) F (Int32.ofNat b, Int32.ofNat i, Int32.ofNat st, M) = m_Terms_cat_103 (Int32.ofNat b, Int32.ofNat ((l ++ spI g f i).length - 1), M1) ∧ RW M1 17 18 (l ++ spI g f i) ∧ TI g M1 ∧ RO M1 ∧ FC RN FN M M1 ∧ gA M1 12 = gA M 12 := by
  have addR : ∀ (M : MS) (l : List Nat) (x : Nat), TI g M → RO M → GD M → RW M 17 18 l → l.length < 50000 → ∃ M1, m_Row_add 17 (Int32.ofNat x) M = some (M1, ()) ∧ RW M1 17 18 (l ++ [x]) ∧ TI g M1 ∧ RO M1 ∧ FC [18] [(17, 1)] M M1 := by
    intro M l x hI hr hG hW hl
    obtain ⟨M1, a1, a2, a3, a4⟩ := c_add (x := x) isR17 hW hG (by omega)
    obtain ⟨⟨l1, r1⟩, -, ⟨l3, r3⟩, r4, r5, r6, r7⟩ := hr
    exact ⟨M1, a1, a2, hI.row isR17 a3, ⟨⟨l1, r1.fc a3 (by decide) (by decide)⟩, ⟨_, a2⟩, ⟨l3, r3.fc a3 (by decide) (by decide)⟩, by rw [a3.gl (by decide)]; exact r4, by omega, by rw [a3.gl (by decide)]; exact r6, by rw [a3.gl (by decide)]; exact r7⟩, a3⟩
  intro f
  induction f with
  | zero =>
    intro i st M l F hI hr hG hW hi hf hl hst hF
    have h0 : i = 0 := by omega
    subst h0
    have hlt := hI.2.1.lt
    obtain ⟨-, ⟨m3, m4⟩, -, -, mi⟩ := hI.2.1
    have a3 := (mi 0 hi).1
    rw [(hI.1.2.1 0 (by omega)).1, if_pos rfl] at a3
    have hpl : 1 ≤ (ttx g 0).length := List.length_pos_iff.mpr (wf_ne (hI.1.wf hi))
    obtain ⟨M1, b1, b2, b3, b4, b5⟩ := addR M l 0 hI hr hG hW (by omega)
    cases F with
    | zero => omega
    | succ F =>
      refine ⟨M1, ?_, b2, b3, b4, b5.mono (by decide) (by decide), b5.ga (by decide)⟩
      have gen : ∀ k, m_Terms_cat_38b k (Int32.ofNat b) (Int32.ofNat 0) (Int32.ofNat st) M = m_Terms_cat_103 (Int32.ofNat b, Int32.ofNat ((l ++ [0]).length - 1), M1) := by
        intro k
        have b2l := b2.2.1
        have b2l2 := b2.2.2.2.1
        rw [List.length_append, List.length_singleton] at b2l
        unfold m_Terms_cat_38b m_Terms_cat_81
        rw [if_neg (by rw [show (1000000 : Int32) = Int32.ofNat 1000000 from rfl, i_le_of (by omega) (by omega)]; omega), ld_of (by omega) (by omega), a3, Option.bind_some, if_pos (by decide), cal_some b1 b5.le.1 b5.le.2, c_size isR17 b2, cal_same, i_pred (by rw [List.length_append, List.length_singleton]; omega) (by rw [List.length_append, List.length_singleton]; omega)]
      exact gen _
  | succ f ih =>
    intro i st M l F hI hr hG hW hi hf hl hst hF
    have hlt := hI.2.1.lt
    obtain ⟨-, ⟨m3, m4⟩, -, -, mi⟩ := hI.2.1
    have a3 := (mi i hi).1
    have hso : tso g i < 8 := by
      rw [← hI.1.so hi]
      exact Nat.mod_lt _ (by omega)
    have hil : 1 ≤ (ttx g i).length := List.length_pos_iff.mpr (wf_ne (hI.1.wf hi))
    cases F with
    | zero => omega
    | succ F =>
      unfold spI
      by_cases h3 : tso g i = 3
      · rw [if_pos h3]
        obtain ⟨p, q, e1, e2, e3, e4, e5, e6⟩ := hI.1.cat2 hi h3
        have hg0 : (tkd g i).getD 0 0 = p := by rw [e1]; rfl
        have hg1 : (tkd g i).getD 1 0 = q := by rw [e1]; rfl
        have hpl : 1 ≤ (ttx g p).length := List.length_pos_iff.mpr (wf_ne (hI.1.wf (by omega)))
        rw [e5, List.length_cons, List.length_append] at hl
        obtain ⟨M1, b1, b2, b3, b4, b5⟩ := addR M l p hI hr hG hW (by omega)
        obtain ⟨M2, d1, d2, d3, d4, d5, d6⟩ := ih q (st + 1) M1 (l ++ [p]) F b3 b4 (hG.fc b5) b2 (by omega) (by omega) (by rw [List.length_append, List.length_singleton]; omega) (by omega) (by omega)
        rw [List.append_assoc] at d1 d2
        rw [hg0, hg1]
        refine ⟨M2, ?_, d2, d3, d4, (b5.mono (by decide) (by decide)).tr d5, d6.trans (b5.ga (by decide))⟩
        refine Eq.trans ?_ d1
        have gen : ∀ k, m_Terms_cat_38b k (Int32.ofNat b) (Int32.ofNat i) (Int32.ofNat st) M = k (Int32.ofNat b, Int32.ofNat q, Int32.ofNat (st + 1), M1) := by
          intro k
          have k0 := c_kid (j := 0) hI hi (by rw [e1]; simp)
          rw [hg0] at k0
          have k0' : m_Terms_kid (Int32.ofNat i) (0 : Int32) M = some (M, Int32.ofNat p) := k0
          have k1 := c_kid (j := 1) b3 hi (by rw [e1]; simp)
          rw [hg1] at k1
          have k1' : m_Terms_kid (Int32.ofNat i) (1 : Int32) M1 = some (M1, Int32.ofNat q) := k1
          unfold m_Terms_cat_38b
          rw [if_neg (by rw [show (1000000 : Int32) = Int32.ofNat 1000000 from rfl, i_le_of (by omega) (by omega)]; omega), ld_of (by omega) (by omega), a3, Option.bind_some, if_neg (by rw [h3]; decide), k0', cal_same, cal_some b1 b5.le.1 b5.le.2, k1', cal_same, i_inc]
        exact gen _
      · rw [if_neg h3]
        obtain ⟨M1, b1, b2, b3, b4, b5⟩ := addR M l i hI hr hG hW (by omega)
        refine ⟨M1, ?_, b2, b3, b4, b5.mono (by decide) (by decide), b5.ga (by decide)⟩
        have gen : ∀ k, m_Terms_cat_38b k (Int32.ofNat b) (Int32.ofNat i) (Int32.ofNat st) M = m_Terms_cat_103 (Int32.ofNat b, Int32.ofNat ((l ++ [i]).length - 1), M1) := by
          intro k
          unfold m_Terms_cat_38b m_Terms_cat_81
          rw [if_neg (by rw [show (1000000 : Int32) = Int32.ofNat 1000000 from rfl, i_le_of (by omega) (by omega)]; omega), ld_of (by omega) (by omega), a3, Option.bind_some, if_pos (by rw [show (3 : Int32) = Int32.ofNat 3 from rfl, i_eq_of (by omega) (by omega)]; exact h3), cal_some b1 b5.le.1 b5.le.2, c_size isR17 b2, cal_same, i_pred (by rw [List.length_append, List.length_singleton]; omega) (by rw [List.length_append, List.length_singleton]; omega)]
        exact gen _
