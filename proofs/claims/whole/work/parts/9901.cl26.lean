/-! STEP 2, the class: machineOf -/
theorem c_xdv {S : Nat → List Nat} {W : Option (List Nat)} {M : MS} {g : TG} {sl fd : Nat → Nat} {q : List (List Nat)} {s c : Nat} (h : CIg S W M g sl) (hF : FDq g M fd q) (hl : q.length ≤ 150) (hq : ∀ u ∈ q, u.length ≤ 300) (hs : s < q.length) (hc : c < 4) :
    ∃ Mt M1 g1 sl1 fd1 d x, m_Terms_tidy (Int32.ofNat q.length) M = some (Mt, ()) ∧ cLe M Mt ∧ ldA Mt 26 (Int32.ofNat s) = some (Int32.ofNat x) ∧ m_Terms_derivative (Int32.ofNat x) (Int32.ofNat c) Mt = some (M1, Int32.ofNat d) ∧ cLe Mt M1 ∧ CIg S W M1 g1 sl1 ∧ FDq g1 M1 fd1 q ∧ d < tU g1 ∧ ttx g1 d = DS c (q.getD s []) ∧ FrC M M1 ∧ (∀ b, 27 ≤ b → gA M1 b = gA M b) ∧ (∀ o k, 27 ≤ o → gI M1 o k = gI M o k) := by
  obtain ⟨h1, ⟨r1, r2, r3, r4, r5⟩, h3, h4, ⟨h5, h6⟩, h7⟩ := h
  obtain ⟨Mt, gt, ρ, t1, t2, t3, t4, t5, t6, t7, t8, t9⟩ := c_tidy (fd := fd) (n := q.length) h1 ⟨r1, r2, hl, r4, fun j hj => by
    obtain ⟨f1, f2, f3, f4⟩ := hF j hj
    exact ⟨f1, f2, by rw [f3]; exact hq _ (getD_mem hj)⟩⟩ h3
  have f9 := FC.of t9
  obtain ⟨u1, u2, u3, u4, u5⟩ := t3
  obtain ⟨x1, x2, x3⟩ := u5 s hs
  have x1' : gA Mt 26 s = Int32.ofNat (ρ (fd s)) := x1
  have x2' : ρ (fd s) < tU gt := x2
  have x3' : (ttx gt (ρ (fd s))).length ≤ 300 := x3
  have hRt := h7.fc f9 (by decide) (by decide)
  obtain ⟨b1, b2⟩ := ct_300 t2.1 x2' x3'
  obtain ⟨M1, g1, d, d1, d2, d3, d4, d5, d6, d7, -, -, d8⟩ := c_derivative t2 (h5.fr t9) hRt.2.2.1.gd (h6.fc f9 (by decide) (by decide)) x2' hc x3' (by omega) (by omega)
  refine ⟨Mt, M1, g1, fun s => ρ (sl s), fun j => ρ (fd j), d, ρ (fd s), t1, t9.le, ?_, d1, d8.le, ⟨d2, ?_, t4.fc d8 (by decide) (by decide), fun s hs => ?_, ⟨d4, d5⟩, hRt.fc d8 (by decide) (by decide)⟩, fun j hj => ?_, d6, ?_, (f9.toC (by decide) (by decide)).tr (d8.toC (by decide) (by decide)), fun b hb => ?_, fun o k ho => ?_⟩
  · rw [ld_of (by omega) (by omega), x1']
  · have u0 : TRw gt Mt (fun s => ρ (sl s)) (fun _ => 0) 0 := ⟨u1, u2, Nat.zero_le _, u4, fun j hj => absurd hj (by omega)⟩
    exact u0.te d3 d8 (by decide) (by decide)
  · exact (d3.tx (u4 s hs).2.1).trans ((t7 s hs).trans (h4 s hs))
  · obtain ⟨f1, f2, f3, f4⟩ := hF j hj
    obtain ⟨y1, y2, y3⟩ := u5 j hj
    refine ⟨by rw [d8.ga (by decide)]; exact y1, Nat.lt_of_lt_of_le y2 d3.1, ?_, ?_⟩
    · exact (d3.tx y2).trans ((t8 j hj).1.trans f3)
    · exact (d3.2.2 _ y2).2.2.2.2.trans ((t8 j hj).2.trans f4)
  · rw [d7, (t8 s hs).1, (hF s hs).2.2.1]
  · rw [d8.ga (fun q => by have := (by decide : ∀ x ∈ RNd, x < 27) _ q; omega), f9.ga (fun q => by have := (by decide : ∀ x ∈ RTd, x < 27) _ q; omega)]
  · rw [d8.gi (fun q => by have := (by decide : ∀ x ∈ FNd, x.1 < 27) _ q; simp only at this; omega), f9.gi (fun q => by have := (by decide : ∀ x ∈ FTd, x.1 < 27) _ q; simp only at this; omega)]
/-- exploring slot a leaves the other machines -/
def FrX (a : Nat) (M M1 : MS) : Prop := FrC M M1 ∧ (∀ b, 27 ≤ b → b ≠ 27 + 3 * a + 1 → b ≠ 27 + 3 * a + 2 → gA M1 b = gA M b) ∧ ∀ o k, 27 ≤ o → o ≠ 27 + 3 * a → gI M1 o k = gI M o k
theorem FrX.rf {a : Nat} {M : MS} : FrX a M M := ⟨FrC.rf, fun _ _ _ _ => rfl, fun _ _ _ _ => rfl⟩
theorem FrX.tr {a : Nat} {M M1 M2 : MS} (h : FrX a M M1) (h2 : FrX a M1 M2) : FrX a M M2 := ⟨h.1.tr h2.1, fun b h1 h3 h4 => (h2.2.1 b h1 h3 h4).trans (h.2.1 b h1 h3 h4), fun o k h1 h3 => (h2.2.2 o k h1 h3).trans (h.2.2 o k h1 h3)⟩
theorem FrC.sA {M M0 : MS} {a j : Nat} {v : Int32} (h : FrC M0 M) (ha : a < 97) : FrC M0 (sA M a j v) := h.tr ((FC.of (Fr.stA (R := [a]) (F := []) (by simp))).toC (by simpa using ha) (by simp))
theorem FrC.sI {M M0 : MS} {a j : Nat} {v : Int32} (h : FrC M0 M) (ha : a < 97) : FrC M0 (sI M a j v) := h.tr ((FC.of (Fr.stI (R := []) (F := [(a, j)]) (by simp))).toC (by simp) (by simpa using ha))
theorem FrX.sA {M M0 : MS} {a b j : Nat} {v : Int32} (h : FrX a M0 M) (ha : a < 16) (hb : b < 27 ∨ b = 27 + 3 * a + 1 ∨ b = 27 + 3 * a + 2) : FrX a M0 (sA M b j v) := ⟨FrC.sA h.1 (by omega), fun x h1 h2 h3 => by
  rw [gA_sAn (by omega)]
  exact h.2.1 x h1 h2 h3, fun o k h1 h2 => h.2.2 o k h1 h2⟩
theorem FrX.sI {M M0 : MS} {a j : Nat} {v : Int32} (h : FrX a M0 M) (ha : a < 16) : FrX a M0 (sI M (27 + 3 * a) j v) := ⟨FrC.sI h.1 (by omega), fun x h1 h2 h3 => h.2.1 x h1 h2 h3, fun o k h1 h2 => by
  rw [gI_sI, if_neg (fun q => h2 q.1)]
  exact h.2.2 o k h1 h2⟩
/-- exploring slot a: the states found, with what is done of them -/
def EC (S : Nat → List Nat) (W : Option (List Nat)) (a : Nat) (M0 : MS) (q : List (List Nat)) (s c sa : Nat) (M : MS) : Prop := ∃ g sl fd, CIg S W M g sl ∧ gI M (27 + 3 * a) 2 = 0 ∧ FDq g M fd q ∧ (q.Nodup ∧ q[0]? = some (S a) ∧ q.length ≤ 150) ∧ (∀ u ∈ q, Rc (S a) u ∧ wf u ∧ pr u ∧ u.length ≤ 300) ∧
  (∀ i d, i < q.length → d < 4 → (i < s ∨ (i = s ∧ d < c)) → DS d (q.getD i []) ∈ q ∧ gA M (27 + 3 * a + 1) (4 * i + d) = Int32.ofNat (ix (DS d (q.getD i [])) q)) ∧
  (∀ i, i < q.length → i < sa → gA M (27 + 3 * a + 2) i = b01 (NS (q.getD i []))) ∧
  (∀ i, 0 < i → i < q.length → ∃ j, j < i ∧ ∃ d, d < 4 ∧ DS d (q.getD j []) = q.getD i []) ∧ FrX a M0 M
/-- a machine that was asked for -/
def KN (S : Nat → List Nat) (a : Nat) (M : MS) : Prop := (gI M (27 + 3 * a) 2 = -1 ∧ Big (S a)) ∨ ∃ q, Mch (S a) q ∧ gI M (27 + 3 * a) 2 = Int32.ofNat q.length ∧ XC M (27 + 3 * a) q
def EO (S : Nat → List Nat) (W : Option (List Nat)) (a : Nat) (M0 : MS) (r : MS × Nat) : Prop := r.2 = 27 + 3 * a ∧ CI S W r.1 ∧ FrX a M0 r.1 ∧ KN S a r.1
theorem c_mof151 {S : Nat → List Nat} {W : Option (List Nat)} {a : Nat} {M0 M : MS} {g : TG} {sl : Nat → Nat} (ha : a < 16) (h : CIg S W M g sl) (hB : Big (S a)) (hf : FrX a M0 M) : Ok (m_Explorer_machineOf_151 (27 + 3 * a) M) (EO S W a M0) := by
  unfold m_Explorer_machineOf_151
  rw [c_msetCount ha, cal_sI]
  have e : gI (sI M (27 + 3 * a) 2 (-1)) (27 + 3 * a) 2 = -1 := by rw [gI_sI, if_pos ⟨rfl, rfl⟩]
  exact ok_some ⟨rfl, ⟨g, sl, h.fin ha (Or.inr (Or.inl ⟨e, hB⟩))⟩, hf.sI ha, Or.inl ⟨e, hB⟩⟩
theorem CIg.ln {S : Nat → List Nat} {W : Option (List Nat)} {M : MS} {g : TG} {sl : Nat → Nat} (h : CIg S W M g sl) : CLn (gL M) := h.2.2.2.2.2.2.1
theorem c_mof81 {S : Nat → List Nat} {W : Option (List Nat)} {a : Nat} {M0 : MS} {k45 : Nat × Int32 × Int32 × MS → Option (MS × Nat)} {s : Nat} (ha : a < 16) (hk : ∀ q M, EC S W a M0 q (s + 1) 0 (s + 1) M → s < q.length → Ok (k45 (27 + 3 * a, Int32.ofNat q.length, Int32.ofNat (s + 1), M)) (EO S W a M0)) (q : List (List Nat)) (M : MS) (hE : EC S W a M0 q s 0 (s + 1) M) (hs : s < q.length) :
    Ok (m_Explorer_machineOf_81 k45 (27 + 3 * a, Int32.ofNat q.length, Int32.ofNat s, 0, M)) (EO S W a M0) := by
  unfold m_Explorer_machineOf_81
  refine ok_fx (inv := fun i => ∃ q c M, i = (27 + 3 * a, Int32.ofNat q.length, Int32.ofNat s, Int32.ofNat c, M) ∧ EC S W a M0 q s c (s + 1) M ∧ s < q.length ∧ c ≤ 4) (μ := fun i => 4 - i.2.2.2.1.toInt.toNat) ?_ _ ⟨q, 0, M, rfl, hE, hs, by omega⟩ (by unfold FU; omega)
  intro k i hi ih
  obtain ⟨q, c, M, rfl, ⟨g0, sl0, fd0, e0, ez, eF, ⟨e1, e2, e3⟩, e4, e6, e7, e8, e9⟩, hs, hc⟩ := hi
  show Ok (m_Explorer_machineOf_81b k45 k (27 + 3 * a) (Int32.ofNat q.length) (Int32.ofNat s) (Int32.ofNat c) M) _
  unfold m_Explorer_machineOf_81b
  by_cases h4 : c = 4
  · rw [if_pos (by rw [h4]; decide), i_inc]
    exact hk q M ⟨g0, sl0, fd0, e0, ez, eF, ⟨e1, e2, e3⟩, e4, fun i d hi hd h => e6 i d hi hd (by omega), e7, e8, e9⟩ hs
  · have hc4 : c < 4 := by omega
    rw [if_neg (by rw [show (4 : Int32) = Int32.ofNat 4 from rfl, i_le_of (by omega) (by omega)]; omega)]
    obtain ⟨Mt, M1, g1, sl1, fd1, d, x, t1, t2, t3, t4, t5, t6, t7, t8, t9, t10, t11, t12⟩ := c_xdv e0 eF e3 (fun u hu => (e4 u hu).2.2.2) hs hc4
    obtain ⟨u1, u2, u3, u4⟩ := e4 _ (getD_mem hs)
    have hz1 : gI M1 (27 + 3 * a) 2 = 0 := (t12 _ _ (by omega)).trans ez
    have hL1 := t6.ln
    have hL1a := hL1.2.1 a ha
    have h26 : gL M1 26 = 150 := t6.2.1.2.1
    have hlt := t6.1.2.1.lt
    rw [cal_some t1 t2.1 t2.2, t3, Option.bind_some, cal_some t4 t5.1 t5.2, c_placeOf t6.1 t7 e1 e3 h26 t8, cal_same, t9]
    have hRT : Rc (S a) (DS c (q.getD s [])) := u1.step hc4
    have hixl := ix_le (DS c (q.getD s [])) q
    by_cases hm : DS c (q.getD s []) ∈ q
    · obtain ⟨x1, x2⟩ := ix_mem hm
      rw [if_pos (by show ¬ Int32.ofNat (ix (DS c (q.getD s [])) q) = Int32.ofNat q.length; rw [i_eq_of (by omega) (by omega)]; omega)]
      unfold m_Explorer_machineOf_180
      show Ok (cal cM M1 (m_Machine_setNext (27 + 3 * a) (Int32.ofNat s) (Int32.ofNat c) (Int32.ofNat (ix (DS c (q.getD s [])) q)) M1) _) _
      rw [c_msetNext ha hL1a.1 (by omega) hc4, cal_sA, i_inc]
      have hfw : FC (RXp a) [] M1 (sA M1 (27 + 3 * a + 1) (4 * s + c) (Int32.ofNat (ix (DS c (q.getD s [])) q))) := FC.of (Fr.stA (by unfold RXp; simp))
      refine ih (27 + 3 * a, Int32.ofNat q.length, Int32.ofNat s, Int32.ofNat (c + 1), _) ⟨q, c + 1, _, rfl, ⟨g1, sl1, fd1, t6.own ha hz1 hfw rfl, hz1, fun j hj => ?_, ⟨e1, e2, e3⟩, e4, fun i d hi hd h => ?_, fun i hi h => ?_, e8, (e9.tr ⟨t10, fun b hb _ _ => t11 b hb, fun o k ho _ => t12 o k ho⟩).sA ha (by omega)⟩, hs, by omega⟩ (by show 4 - (Int32.ofNat (c + 1)).toInt.toNat < 4 - (Int32.ofNat c).toInt.toNat; rw [i_of (by omega), i_of (by omega)]; omega)
      · rw [gA_sA, if_neg (by omega)]
        exact t7 j hj
      · rw [gA_sA]
        by_cases hh : i = s ∧ d = c
        · rw [if_pos (by rw [hh.1, hh.2]; exact ⟨rfl, rfl⟩), hh.1, hh.2]
          exact ⟨hm, rfl⟩
        · rw [if_neg (by omega), t11 _ (by omega)]
          exact e6 i d hi hd (by omega)
      · rw [gA_sA, if_neg (by omega), t11 _ (by omega)]
        exact e7 i hi h
    · have hx := ix_not hm
      rw [hx, if_neg (fun h => h rfl)]
      show Ok (if Int32.ofNat q.length = (150 : Int32) then _ else _) _
      by_cases h150 : q.length = 150
      · rw [if_pos (by rw [h150]; rfl)]
        refine c_mof151 ha t6 (Or.inr ⟨DS c (q.getD s []) :: q, List.nodup_cons.mpr ⟨hm, e1⟩, by rw [List.length_cons]; omega, fun v hv => ?_⟩) (e9.tr ⟨t10, fun b hb _ _ => t11 b hb, fun o k ho _ => t12 o k ho⟩)
        rcases List.mem_cons.mp hv with rfl | hv
        · exact hRT
        · exact (e4 v hv).1
      · rw [if_neg (by rw [show (150 : Int32) = Int32.ofNat 150 from rfl, i_eq_of (by omega) (by omega)]; exact h150)]
        show Ok (cal cM M1 (m_Terms_sizeOf (Int32.ofNat d) M1) _) _
        have hsz := t6.1.1.sz t8
        rw [t6.1.sz t8, cal_same]
        rw [t9] at hsz
        by_cases hbig : (DS c (q.getD s [])).length ≤ 300
        · rw [if_pos (by show Int32.ofNat (ttx g1 d).length ≤ 300; rw [t9, show (300 : Int32) = Int32.ofNat 300 from rfl, i_le_of (by omega) (by omega)]; exact hbig)]
          show Ok ((stA M1 26 (Int32.ofNat q.length) (Int32.ofNat d)).bind _) _
          have hst : stA M1 26 (Int32.ofNat q.length) (Int32.ofNat d) = some (sA M1 26 q.length (Int32.ofNat d)) := st_of (by omega) (by omega)
          rw [hst, Option.bind_some]
          have l10 : gL M1 10 = gL M1 3 := t6.1.2.1.2.2.1.2.2.2.2.2.2.1
          have hU3 := t6.1.2.1.2.1.1
          have htg : m_Terms_setTag (Int32.ofNat d) (Int32.ofNat q.length) (sA M1 26 q.length (Int32.ofNat d)) = some (sA (sA M1 26 q.length (Int32.ofNat d)) 10 d (Int32.ofNat q.length), ()) := by
            unfold m_Terms_setTag
            rw [st_of (by show d < gL M1 10; omega) (by omega), Option.bind_some]
          rw [htg, cal_sA]
          unfold m_Explorer_machineOf_180
          have hf26 : FC (RXp a) [] M1 (sA M1 26 q.length (Int32.ofNat d)) := FC.of (Fr.stA (by unfold RXp; simp))
          have c2 := (t6.own ha hz1 hf26 rfl).tag (i := d) (v := q.length) (by omega)
          have hz2 : gI (sA (sA M1 26 q.length (Int32.ofNat d)) 10 d (Int32.ofNat q.length)) (27 + 3 * a) 2 = 0 := hz1
          have ga2 : ∀ b p, b ≠ 10 → (b ≠ 26 ∨ p ≠ q.length) → gA (sA (sA M1 26 q.length (Int32.ofNat d)) 10 d (Int32.ofNat q.length)) b p = gA M1 b p := fun b p hb hp => by
            rw [gA_sA, if_neg (fun q => hb q.1), gA_sA, if_neg (by omega)]
          have g26 : gA (sA (sA M1 26 q.length (Int32.ofNat d)) 10 d (Int32.ofNat q.length)) 26 q.length = Int32.ofNat d := by
            rw [gA_sA, if_neg (by omega), gA_sA, if_pos ⟨rfl, rfl⟩]
          have fr2 : FrX a M0 (sA (sA M1 26 q.length (Int32.ofNat d)) 10 d (Int32.ofNat q.length)) := ((e9.tr ⟨t10, fun b hb _ _ => t11 b hb, fun o k ho _ => t12 o k ho⟩).sA ha (by omega)).sA ha (by omega)
          generalize sA (sA M1 26 q.length (Int32.ofNat d)) 10 d (Int32.ofNat q.length) = M2 at c2 hz2 ga2 g26 fr2
          have hL2a := c2.ln.2.1 a ha
          show Ok (cal cM M2 (m_Machine_setNext (27 + 3 * a) (Int32.ofNat s) (Int32.ofNat c) (Int32.ofNat q.length) M2) _) _
          rw [c_msetNext ha hL2a.1 (by omega) hc4, cal_sA, i_inc, i_inc]
          have hfw : FC (RXp a) [] M2 (sA M2 (27 + 3 * a + 1) (4 * s + c) (Int32.ofNat q.length)) := FC.of (Fr.stA (by unfold RXp; simp))
          have hql : (q ++ [DS c (q.getD s [])]).length = q.length + 1 := by rw [List.length_append, List.length_singleton]
          have hlast : (q ++ [DS c (q.getD s [])]).getD q.length [] = DS c (q.getD s []) := by simp
          have hnew : ∀ j, j < q.length → fd1 j ≠ d := fun j hj e => hm (by
            rw [← t9, ← e, (t7 j hj).2.2.1]
            exact getD_mem hj)
          refine ih (27 + 3 * a, Int32.ofNat (q.length + 1), Int32.ofNat s, Int32.ofNat (c + 1), _) ⟨q ++ [DS c (q.getD s [])], c + 1, _, by rw [hql], ⟨gtag g1 d q.length, sl1, updN fd1 q.length d, c2.own ha hz2 hfw rfl, hz2, fun j hj => ?_, ⟨?_, ?_, by omega⟩, fun v hv => ?_, fun i d hi hd h => ?_, fun i hi h => ?_, fun i hi0 hi => ?_, fr2.sA ha (by omega)⟩, by omega, by omega⟩ (by show 4 - (Int32.ofNat (c + 1)).toInt.toNat < 4 - (Int32.ofNat c).toInt.toNat; rw [i_of (by omega), i_of (by omega)]; omega)
          · rw [hql] at hj
            rw [gA_sA, if_neg (by omega)]
            by_cases hjn : j < q.length
            · obtain ⟨f1, f2, f3, f4⟩ := t7 j hjn
              rw [updN_ne _ _ (by omega), getD_app_l hjn, ga2 _ _ (by omega) (by omega)]
              refine ⟨f1, f2, f3, ?_⟩
              show updN (ttg g1) d q.length (fd1 j) = j
              rw [updN_ne _ _ (hnew j hjn)]
              exact f4
            · have : j = q.length := by omega
              subst this
              rw [updN_eq, hlast]
              refine ⟨g26, t8, t9, ?_⟩
              show updN (ttg g1) d q.length d = q.length
              rw [updN_eq]
          · rw [List.nodup_append]
            refine ⟨e1, (by simp), fun a ha b hb => ?_⟩
            rw [List.mem_singleton.mp hb]
            intro e
            rw [e] at ha
            exact hm ha
          · rw [List.getElem?_append_left (by omega)]
            exact e2
          · rcases List.mem_append.mp hv with h | h
            · exact e4 v h
            · rw [List.mem_singleton.mp h]
              exact ⟨hRT, wf_DS _ u2, pr_DS _ u2 u3, hbig⟩
          · rw [hql] at hi
            have hin : i < q.length := by omega
            rw [getD_app_l hin, gA_sA]
            by_cases hh : i = s ∧ d = c
            · rw [if_pos (by rw [hh.1, hh.2]; exact ⟨rfl, rfl⟩), hh.1, hh.2]
              refine ⟨List.mem_append_right _ (List.mem_singleton.mpr rfl), ?_⟩
              rw [ix_new hm]
            · rw [if_neg (by omega), ga2 _ _ (by omega) (by omega), t11 _ (by omega)]
              obtain ⟨p1, p2⟩ := e6 i d hin hd (by omega)
              exact ⟨List.mem_append_left _ p1, by rw [ix_app p1]; exact p2⟩
          · rw [hql] at hi
            have hin : i < q.length := by omega
            rw [getD_app_l hin, gA_sA, if_neg (by omega), ga2 _ _ (by omega) (by omega), t11 _ (by omega)]
            exact e7 i hin h
          · rw [hql] at hi
            by_cases hin : i < q.length
            · obtain ⟨j, hj, d, hd, he⟩ := e8 i hi0 hin
              exact ⟨j, hj, d, hd, by rw [getD_app_l (by omega), getD_app_l hin]; exact he⟩
            · have hi2 : i = q.length := by omega
              subst hi2
              exact ⟨s, hs, c, hc4, by rw [getD_app_l hs, hlast]⟩
        · rw [if_neg (by show ¬ Int32.ofNat (ttx g1 d).length ≤ 300; rw [t9, show (300 : Int32) = Int32.ofNat 300 from rfl, i_le_of (by omega) (by omega)]; exact hbig)]
          exact c_mof151 ha t6 (Or.inl ⟨_, hRT, by omega⟩) (e9.tr ⟨t10, fun b hb _ _ => t11 b hb, fun o k ho _ => t12 o k ho⟩)
theorem c_mof45 {S : Nat → List Nat} {W : Option (List Nat)} {a : Nat} {M0 : MS} (ha : a < 16) (q : List (List Nat)) (M : MS) (hE : EC S W a M0 q 0 0 0 M) : Ok (m_Explorer_machineOf_45 (27 + 3 * a, Int32.ofNat q.length, 0, M)) (EO S W a M0) := by
  unfold m_Explorer_machineOf_45
  refine ok_fx (inv := fun i => ∃ q s M, i = (27 + 3 * a, Int32.ofNat q.length, Int32.ofNat s, M) ∧ EC S W a M0 q s 0 s M ∧ s ≤ q.length) (μ := fun i => 151 - i.2.2.1.toInt.toNat) ?_ _ ⟨q, 0, M, rfl, hE, by omega⟩ (by unfold FU; omega)
  intro k i hi ih
  obtain ⟨q, s, M, rfl, ⟨g, sl, fd, e0, ez, eF, ⟨e1, e2, e3⟩, e4, e6, e7, e8, e9⟩, hs⟩ := hi
  show Ok (m_Explorer_machineOf_45b k (27 + 3 * a) (Int32.ofNat q.length) (Int32.ofNat s) M) _
  unfold m_Explorer_machineOf_45b
  by_cases h : s = q.length
  · rw [if_pos (by rw [h]; exact Int32.le_refl _)]
    unfold m_Explorer_machineOf_203
    rw [c_msetCount ha, cal_sI]
    have hm : Mch (S a) q := ⟨e1, e3, e2, fun u hu => (e4 u hu).2, fun u hu c hc => by
      obtain ⟨x1, x2⟩ := ix_mem hu
      have := (e6 (ix u q) c x1 hc (by omega)).1
      rw [x2] at this
      exact this, e8⟩
    have e : gI (sI M (27 + 3 * a) 2 (Int32.ofNat q.length)) (27 + 3 * a) 2 = Int32.ofNat q.length := by rw [gI_sI, if_pos ⟨rfl, rfl⟩]
    have hx : XC (sI M (27 + 3 * a) 2 (Int32.ofNat q.length)) (27 + 3 * a) q := fun i hi => ⟨e7 i hi (by omega), fun c hc => (e6 i c hi hc (by omega)).2⟩
    exact ok_some ⟨rfl, ⟨g, sl, e0.fin ha (Or.inr (Or.inr ⟨q, hm, e, hx⟩))⟩, e9.sI ha, Or.inr ⟨q, hm, e, hx⟩⟩
  · have hsq : s < q.length := by omega
    have h26 : gL M 26 = 150 := e0.2.1.2.1
    obtain ⟨f1, f2, f3, f4⟩ := eF s hsq
    rw [if_neg (by rw [i_le_of (by omega) (by omega)]; omega), if_neg (by rw [show (150 : Int32) = Int32.ofNat 150 from rfl, i_le_of (by omega) (by omega)]; omega), ld_of (by omega) (by omega), f1, Option.bind_some, e0.1.nul f2, cal_same]
    show Ok (cal cM M (m_Machine_setAccepting (27 + 3 * a) (Int32.ofNat s) (b01 (NS (ttx g (fd s)))) M) _) _
    rw [c_msetAcc ha (e0.ln.2.1 a ha).2 (by omega), cal_sA, f3]
    have hfw : FC (RXp a) [] M (sA M (27 + 3 * a + 2) s (b01 (NS (q.getD s [])))) := FC.of (Fr.stA (by unfold RXp; simp))
    refine c_mof81 ha (fun q2 M2 hE2 hs2 => ?_) q _ ⟨g, sl, fd, e0.own ha ez hfw rfl, ez, fun j hj => ?_, ⟨e1, e2, e3⟩, e4, fun i d hi hd h => ?_, fun i hi h => ?_, e8, e9.sA ha (by omega)⟩ hsq
    · obtain ⟨-, -, -, -, -, -, ⟨-, -, hq2⟩, -⟩ := id hE2
      exact ih (27 + 3 * a, Int32.ofNat q2.length, Int32.ofNat (s + 1), M2) ⟨q2, s + 1, M2, rfl, hE2, by omega⟩ (by show 151 - (Int32.ofNat (s + 1)).toInt.toNat < 151 - (Int32.ofNat s).toInt.toNat; rw [i_of (by omega), i_of (by omega)]; omega)
    · rw [gA_sA, if_neg (by omega)]
      exact eF j hj
    · rw [gA_sA, if_neg (by omega)]
      exact e6 i d hi hd h
    · rw [gA_sA]
      by_cases his : i = s
      · rw [if_pos ⟨rfl, his⟩, his]
      · rw [if_neg (fun q => his q.2)]
        exact e7 i hi (by omega)
/-- machines that are known stay -/
def KPm (M M1 : MS) : Prop := ∀ j, j < 16 → gI M (27 + 3 * j) 2 ≠ 0 → gI M1 (27 + 3 * j) 2 = gI M (27 + 3 * j) 2 ∧ gA M1 (27 + 3 * j + 1) = gA M (27 + 3 * j + 1) ∧ gA M1 (27 + 3 * j + 2) = gA M (27 + 3 * j + 2)
/-- machineOf: the slot's machine, known -/
theorem c_machineOf {S : Nat → List Nat} {W : Option (List Nat)} {M : MS} {a : Nat} (h : CI S W M) (ha : a < 16) : ∃ M1, m_Explorer_machineOf (Int32.ofNat a) M = some (M1, 27 + 3 * a) ∧ CI S W M1 ∧ FrC M M1 ∧ KN S a M1 ∧ KPm M M1 := by
  obtain ⟨g, sl, h⟩ := h
  have hln := h.ln
  have go : Ok (m_Explorer_machineOf (Int32.ofNat a) M) (EO S W a M) := by
    unfold m_Explorer_machineOf
    rw [ldQ_of ha hln.1, Option.bind_some, if_pos (x_mch ha).2.1, c_mknown ha, cal_same]
    have hmk := h.2.2.2.2.2.2.2.2.1 a ha
    by_cases hz : gI M (27 + 3 * a) 2 = 0
    · obtain ⟨q1, q2, q3, q4⟩ := h.slot ha
      have h26 : gL M 26 = 150 := h.2.1.2.1
      rw [if_pos hz, if_pos rfl]
      show Ok ((ldA M 1 (Int32.ofNat a)).bind _) _
      rw [q1, Option.bind_some]
      show Ok ((stA M 26 (Int32.ofNat 0) _).bind _) _
      have hst : stA M 26 (Int32.ofNat 0) (Int32.ofNat (sl a)) = some (sA M 26 0 (Int32.ofNat (sl a))) := st_of (by omega) (by omega)
      rw [hst, Option.bind_some]
      have hld : ldA (sA M 26 0 (Int32.ofNat (sl a))) 26 0 = some (Int32.ofNat (sl a)) := by
        refine (ld_of (i := 0) (by show 0 < gL M 26; omega) (by omega)).trans ?_
        rw [gA_sA, if_pos ⟨rfl, rfl⟩]
      rw [hld, Option.bind_some]
      have hlt := h.1.2.1.lt
      have l10 : gL M 10 = gL M 3 := h.1.2.1.2.2.1.2.2.2.2.2.2.1
      have hU3 := h.1.2.1.2.1.1
      have htg : m_Terms_setTag (Int32.ofNat (sl a)) (0 : Int32) (sA M 26 0 (Int32.ofNat (sl a))) = some (sA (sA M 26 0 (Int32.ofNat (sl a))) 10 (sl a) (Int32.ofNat 0), ()) := by
        unfold m_Terms_setTag
        rw [st_of (by show sl a < gL M 10; omega) (by omega), Option.bind_some]
        rfl
      rw [htg, cal_sA]
      have hf26 : FC (RXp a) [] M (sA M 26 0 (Int32.ofNat (sl a))) := FC.of (Fr.stA (by unfold RXp; simp))
      refine c_mof45 ha [S a] _ ⟨gtag g (sl a) 0, sl, fun _ => sl a, (h.own ha hz hf26 rfl).tag (by omega), hz, fun j hj => ?_, ⟨(by simp), rfl, by simp⟩, fun u hu => ?_, fun i d hi hd hh => by omega, fun i hi hh => by omega, fun i h0 hi => by simp at hi; omega, (FrX.rf.sA ha (by omega)).sA ha (by omega)⟩
      · have : j = 0 := by simp at hj; omega
        subst this
        refine ⟨?_, q2, by rw [show ttx (gtag g (sl a) 0) = ttx g from rfl, q4]; rfl, ?_⟩
        · rw [gA_sA, if_neg (by omega), gA_sA, if_pos ⟨rfl, rfl⟩]
        · show updN (ttg g) (sl a) 0 (sl a) = 0
          rw [updN_eq]
      · rw [List.mem_singleton.mp hu]
        exact ⟨Rc.rf _, by rw [← q4]; exact h.1.1.wf q2, by rw [← q4]; exact h.1.1.pr q2, by rw [← q4]; omega⟩
    · rw [if_neg hz, if_neg (by show ¬ (1 : Int32) = 0; decide)]
      refine ok_some ⟨rfl, ⟨g, sl, h⟩, FrX.rf, ?_⟩
      rcases hmk with q | q | q
      · exact absurd q hz
      · exact Or.inl q
      · exact Or.inr q
  by_cases hz : gI M (27 + 3 * a) 2 = 0
  · obtain ⟨r, e, r1, r2, r3, r4⟩ := go
    refine ⟨r.1, ?_, r2, r3.1, r4, fun j hj hne => ?_⟩
    · rw [e, ← r1]
    · have hja : j ≠ a := fun q => hne (by rw [q]; exact hz)
      exact ⟨r3.2.2 _ _ (by omega) (by omega), r3.2.1 _ (by omega) (by omega) (by omega), r3.2.1 _ (by omega) (by omega) (by omega)⟩
  · refine ⟨M, ?_, ⟨g, sl, h⟩, FrC.rf, ?_, fun j hj hne => ⟨rfl, rfl, rfl⟩⟩
    · unfold m_Explorer_machineOf
      rw [ldQ_of ha hln.1, Option.bind_some, if_pos (x_mch ha).2.1, c_mknown ha, cal_same, if_neg hz, if_neg (by show ¬ (1 : Int32) = 0; decide)]
    · rcases h.2.2.2.2.2.2.2.2.1 a ha with q | q | q
      · exact absurd q hz
      · exact Or.inl q
      · exact Or.inr q
