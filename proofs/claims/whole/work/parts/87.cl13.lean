/-! STEP 2, the class: cat -/
theorem catL_snoc (ts : List (List Nat)) (t b : List Nat) : catL (ts ++ [t]) b = catL ts (3 :: (t ++ b)) := by
  unfold catL
  rw [List.foldr_append]
  rfl
theorem catL_len (ts : List (List Nat)) (b : List Nat) : (catL ts b).length = ts.flatten.length + ts.length + b.length := by
  induction ts with
  | nil => simp [catL]
  | cons t ts ih =>
    show (3 :: (t ++ catL ts b)).length = _
    rw [List.length_cons, List.length_append, ih, List.flatten_cons, List.length_append, List.length_cons]
    omega
theorem catL_congr {g g' : TG} (h : TE g g') {u : List Nat} (hu : ∀ k ∈ u, k < tU g) (b : List Nat) : catL (u.map (ttx g')) b = catL (u.map (ttx g)) b := by rw [h.map hu]
/-- from the spine's end: a CAT for each -/
theorem c_cat103 : ∀ (n : Nat) (u v : List Nat) (g : TG) (M : MS) (made F : Nat), u.length = n → TI g M → RO M → GD M → RW M 17 18 (u ++ v) → (∀ k ∈ u, k < tU g ∧ tso g k ≠ 3) → made < tU g → (catL (u.map (ttx g)) (ttx g made)).length ≤ 1000000 → tU g + n < 131072 → tKU g + 2 * n ≤ 500000 → n < F →
    NR g M (catL (u.map (ttx g)) (ttx g made)) n (2 * n) (fx (fun (k : Int32 × Int32 × MS → Option (MS × Int32)) (i : Int32 × Int32 × MS) => m_Terms_cat_103b k i.1 i.2.1 i.2.2) F (Int32.ofNat made, Int32.ofNat n + -1, M)) := by
  intro n
  induction n with
  | zero =>
    intro u v g M made F hn hI hr hG hW hu hm hl hU hK hF
    obtain rfl := List.length_eq_zero_iff.mp hn
    cases F with
    | zero => omega
    | succ F =>
      have gen : ∀ k, m_Terms_cat_103b k (Int32.ofNat made) (Int32.ofNat 0 + -1) M = some (M, Int32.ofNat made) := by
        intro k
        unfold m_Terms_cat_103b
        rw [if_pos (show Int32.ofNat 0 + -1 < 0 by decide)]
      have := gen (fx (fun (k : Int32 × Int32 × MS → Option (MS × Int32)) (i : Int32 × Int32 × MS) => m_Terms_cat_103b k i.1 i.2.1 i.2.2) F)
      show NR g M _ _ _ (m_Terms_cat_103b _ (Int32.ofNat made) (Int32.ofNat 0 + -1) M)
      rw [this]
      exact NR.here hI hr hm rfl
  | succ n ih =>
    intro u v g M made F hn hI hr hG hW hu hm hl hU hK hF
    rcases List.eq_nil_or_concat u with rfl | ⟨u', x, rfl⟩
    · simp at hn
    rw [List.concat_eq_append] at *
    rw [List.length_append, List.length_singleton] at hn
    have hn' : u'.length = n := by omega
    obtain ⟨hxU, hx3⟩ := hu x (by simp)
    have hlt := hI.2.1.lt
    have hwl := hW.2.1
    have hwl2 := hW.2.2.2.1
    rw [List.length_append, List.length_append, List.length_singleton] at hwl
    obtain ⟨⟨l1, r1⟩, ⟨l2, r2⟩, ⟨l3, r3⟩, r4, r5, r6, r7⟩ := id hr
    obtain ⟨c1, c2, c3⟩ := c_clear isR15 r1
    have hW1 := hW.fc c3 (by decide) (by decide)
    have gx : (u' ++ [x] ++ v).getD n 0 = x := by
      rw [← hn', List.append_assoc]
      simp
    have hget := c_get (j := n) isR17 hW1 (by rw [List.length_append, List.length_append, List.length_singleton]; omega)
    rw [gx] at hget
    obtain ⟨M2, a1, a2, a3, a4⟩ := c_add (x := x) isR15 c2 (hG.fc c3) (by simp)
    obtain ⟨M3, b1, b2, b3, b4⟩ := c_add (x := made) isR15 a2 ((hG.fc c3).fc a3) (by simp)
    have hf : FC [16] [(15, 1)] M M3 := (c3.tr a3).tr b3
    have b2' : RW M3 15 16 [x, made] := b2
    have hI3 := hI.row isR15 hf
    have hg16 : gL M3 16 ≤ 128 := by
      have e0 : gL (sI M 15 1 0) 16 = gL M 16 := rfl
      rw [List.length_nil] at a4
      simp only [List.nil_append, List.length_singleton] at b4
      omega
    have hr3 : RO M3 := ⟨⟨_, b2'⟩, ⟨_, r2.fc hf (by decide) (by decide)⟩, ⟨l3, r3.fc hf (by decide) (by decide)⟩, hg16, by rw [hf.gl (by decide)]; exact r5, by rw [hf.gl (by decide)]; exact r6, by rw [hf.gl (by decide)]; exact r7⟩
    have htx : txF 3 ([x, made].map (ttx g)) = 3 :: (ttx g x ++ ttx g made) := by simp [txF]
    rw [List.map_append, List.map_cons, List.map_nil, catL_snoc] at hl
    have hll := hl
    rw [catL_len, List.length_cons, List.length_append] at hll
    obtain ⟨M4, g1, j, d1, d2, d3, d4, d5, d6, d7, d8, d9, d10, d11, d12, -, -, d15⟩ := c_nodeR (s := 3) hI3 hr3 (hG.fc hf) (Or.inl ⟨rfl, x, made, rfl, hx3⟩) isR15 b2' (fun k hk => by
      simp only [List.mem_cons, List.not_mem_nil, or_false] at hk
      rcases hk with rfl | rfl
      · exact hxU
      · exact hm) (by rw [htx, List.length_cons, List.length_append]; omega) (by omega) (by simp; omega)
    have d9' : tKU g1 ≤ tKU g + 2 := d9
    have hW4 : RW M4 17 18 (u' ++ ([x] ++ v)) := by
      rw [← List.append_assoc]
      exact d12 _ _ _ isR17 (hW.fc hf (by decide) (by decide))
    have hu' : ∀ k ∈ u', k < tU g := fun k hk => (hu k (List.mem_append_left _ hk)).1
    rw [htx] at d5
    have htext : catL (u'.map (ttx g1)) (ttx g1 j) = catL (u'.map (ttx g)) (3 :: (ttx g x ++ ttx g made)) := by rw [catL_congr d3 hu', d5]
    cases F with
    | zero => omega
    | succ F =>
      have hih := ih u' ([x] ++ v) g1 M4 j F hn' d2 d11 ((hG.fc hf).fc d10) hW4 (fun k hk => ⟨Nat.lt_of_lt_of_le (hu' k hk) d3.1, by rw [d3.so (hu' k hk)]; exact (hu k (List.mem_append_left _ hk)).2⟩) d4 (by rw [htext]; exact hl) (by omega) (by omega) (by omega)
      obtain ⟨M5, g2, i, e1, e2, e3, e4, e5, e6, e7, e8, e9, e10⟩ := hih
      refine ⟨M5, g2, i, ?_, e2, d3.tr e3, e4, ?_, by omega, by omega, ((hf.mono (by decide) (by decide)).tr d10).tr e8, e9, fun p hp => ((e10 p (by have := d3.1; omega)).trans (d15 p hp)).trans (by rw [hf.ga (by decide)])⟩
      · refine Eq.trans ?_ e1
        have e0 : Int32.ofNat (n + 1) + -1 = Int32.ofNat n := by rw [i_dec (by omega) (by omega), Nat.add_sub_cancel]
        rw [e0]
        have gen : ∀ k, m_Terms_cat_103b k (Int32.ofNat made) (Int32.ofNat n) M = k (Int32.ofNat j, Int32.ofNat n + -1, M4) := by
          intro k
          unfold m_Terms_cat_103b
          have d1' : m_Terms_node (3 : Int32) 15 M3 = some (M4, Int32.ofNat j) := d1
          rw [if_neg (by rw [i_lt, i_of (by omega), i_0]; omega), c1, cal_sI, hget, cal_same, cal_some a1 a3.le.1 a3.le.2, cal_some b1 b3.le.1 b3.le.2, cal_some d1' d10.le.1 d10.le.2]
        exact gen _
      · rw [e5, htext, List.map_append, List.map_cons, List.map_nil, catL_snoc]
/-- how many CATs stand on the right spine of a term, and one -/
def spn (g : TG) (i : Nat) : Nat := (spI g i i).length
/-- cat -/
theorem c_cat {g : TG} {M : MS} {a b : Nat} (h : TI g M) (hr : RO M) (hG : GD M) (ha : a < tU g) (hb : b < tU g) (hla : (ttx g a).length ≤ 46000) (hlb : (ttx g b).length ≤ 46000) (hU : tU g + spn g a < 131072) (hK : tKU g + 2 * spn g a ≤ 500000) :
    NR g M (catS (ttx g a) (ttx g b)) (spn g a) (2 * spn g a) (m_Terms_cat (Int32.ofNat a) (Int32.ofNat b) M) := by
  have hlt := h.2.1.lt
  have hU18 := h.1.1
  have a0 := hd0 h.1 ha
  have b0 := hd0 h.1 hb
  have a16 := hd16 h.1 ha
  have b16 := hd16 h.1 hb
  unfold m_Terms_cat
  by_cases c1 : a = 0
  · have e : catS (ttx g a) (ttx g b) = [0] := by unfold catS; rw [if_pos (Or.inl (a0.mp c1))]
    rw [if_pos (by rw [c1]; decide), e]
    exact NR.here (i := 0) h hr (by omega) h.1.t0
  · rw [if_neg (by rw [i_eq, i_of (by omega), i_0]; omega)]
    by_cases c2 : b = 0
    · have e : catS (ttx g a) (ttx g b) = [0] := by unfold catS; rw [if_pos (Or.inr (b0.mp c2))]
      rw [if_neg (by rw [c2]; decide), e]
      exact NR.here (i := 0) h hr (by omega) h.1.t0
    · have hn0 : ¬ (ttx g a = [0] ∨ ttx g b = [0]) := fun q => by
        rcases q with q | q
        · exact c1 (a0.mpr q)
        · exact c2 (b0.mpr q)
      rw [if_pos (by rw [i_eq, i_of (by omega), i_0]; omega)]
      by_cases c3 : a = 16
      · have e : catS (ttx g a) (ttx g b) = ttx g b := by unfold catS; rw [if_neg hn0, if_pos (a16.mp c3)]
        rw [if_neg (by rw [c3]; decide), e]
        exact NR.here h hr hb rfl
      · rw [if_pos (by rw [i_eq, i_of (by omega), i_16]; omega)]
        by_cases c4 : b = 16
        · have e : catS (ttx g a) (ttx g b) = ttx g a := by unfold catS; rw [if_neg hn0, if_neg (fun q => c3 (a16.mpr q)), if_pos (b16.mp c4)]
          rw [if_neg (by rw [c4]; decide), e]
          exact NR.here h hr ha rfl
        · rw [if_pos (by rw [i_eq, i_of (by omega), i_16]; omega)]
          obtain ⟨s1, s2, s3⟩ := spI_ok h.1 a a ha (Nat.le_refl _)
          have e : catS (ttx g a) (ttx g b) = catL ((spI g a a).map (ttx g)) (ttx g b) := by
            unfold catS
            rw [if_neg hn0, if_neg (fun q => c3 (a16.mpr q)), if_neg (fun q => c4 (b16.mpr q))]
            exact s3 _ _ (Nat.le_refl _)
          rw [e]
          obtain ⟨⟨l1, r1⟩, ⟨l2, r2⟩, ⟨l3, r3⟩, r4, r5, r6, r7⟩ := id hr
          obtain ⟨d1, d2, d3⟩ := c_clear isR17 r2
          have hI1 := h.row isR17 d3
          have hr1 : RO (sI M 17 1 0) := ⟨⟨l1, r1.fc d3 (by decide) (by decide)⟩, ⟨_, d2⟩, ⟨l3, r3.fc d3 (by decide) (by decide)⟩, r4, r5, r6, r7⟩
          obtain ⟨M1, e1, e2, e3, e4, e5, e6⟩ := c_cat38 (g := g) (b := b) a a 0 (sI M 17 1 0) [] FU hI1 hr1 (hG.fc d3) d2 ha (Nat.le_refl _) (by simp; omega) (by omega) (by unfold FU; omega)
          rw [List.nil_append] at e1 e2
          have hcl : (catL ((spI g a a).map (ttx g)) (ttx g b)).length ≤ 1000000 := by
            rw [← e]
            have := catS_len (h.1.wf ha) (h.1.wf hb)
            omega
          have hsp : 1 ≤ (spI g a a).length := by
            cases a with
            | zero => exact Nat.le_refl _
            | succ f =>
              show 1 ≤ (if tso g (f + 1) = 3 then (tkd g (f + 1)).getD 0 0 :: spI g f ((tkd g (f + 1)).getD 1 0) else [f + 1]).length
              split
              · rw [List.length_cons]; omega
              · exact Nat.le_refl _
          unfold spn at hU hK ⊢
          obtain ⟨M2, g', i, f1, f2, f3, f4, f5, f6, f7, f8, f9, f10⟩ := c_cat103 (spI g a a).length (spI g a a) [] g M1 b FU rfl e3 e4 ((hG.fc d3).fc e5) (by rw [List.append_nil]; exact e2) s1 hb hcl hU hK (by unfold FU; omega)
          rw [i_dec (by omega) (by omega)] at f1
          have e1' : m_Terms_cat_38 (Int32.ofNat b, Int32.ofNat a, 0, sI M 17 1 0) = m_Terms_cat_103 (Int32.ofNat b, Int32.ofNat ((spI g a a).length - 1), M1) := e1
          rw [d1, cal_sI, e1']
          exact ⟨M2, g', i, f1, f2, f3, f4, f5, f6, f7, ((d3.mono (by decide) (by decide)).tr e5).tr f8, f9, fun p hp => (f10 p hp).trans (by rw [e6]; rfl)⟩
