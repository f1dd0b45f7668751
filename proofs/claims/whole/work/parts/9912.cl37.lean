/-! STEP 2: class and reference side by side -/
theorem RLx.keep {g g' : Nat → Nat} (h : RLx g) (e : ∀ a, 97 ≤ a → g' a = g a) : RLx g' := by
  obtain ⟨⟨a1, a2, ⟨a3, a4, a5, a6⟩, a7, a8⟩, ⟨b1, b2⟩, ⟨c1, c2, c3, c4, c5, c6, c7, c8⟩, d1, d2, d3, d4, d5, d6, d7⟩ := h
  refine ⟨⟨?_, ?_, ⟨?_, ?_, ?_, ?_⟩, ?_, ?_⟩, ⟨?_, ?_⟩, ⟨?_, ?_, ?_, ?_, ?_, ?_, ?_, ?_⟩, ?_, ?_, ?_, ?_, ?_, ?_, ?_⟩ <;> (rw [e _ (by omega)]; assumption)
theorem RI.frc {S : Nat → List Nat} {W : Option (List Nat)} {M M1 : MS} (h : RI S W M) (hf : FrC M M1) : RI S W M1 := by
  obtain ⟨h1, h2, h3⟩ := h
  refine ⟨h1.keep (fun a ha => (hf.1 a ha).2.2), fun s hs => ?_, ?_⟩
  · obtain ⟨⟨a1, a2⟩, a3, a4⟩ := h2 s hs
    refine ⟨⟨by rw [(hf.1 98 (by omega)).2.2]; exact a1, fun k hk => by rw [(hf.1 98 (by omega)).1]; exact a2 k hk⟩, by rw [(hf.1 99 (by omega)).1]; exact a3, a4⟩
  · cases W with
    | none =>
      show gI M1 97 27 = -1
      rw [hf.2.1 97 27 (by omega)]
      exact h3
    | some w =>
      obtain ⟨a1, ⟨a2, a3⟩, a4⟩ := h3
      exact ⟨by rw [hf.2.1 97 27 (by omega)]; exact a1, ⟨by rw [(hf.1 119 (by omega)).2.2]; exact a2, fun k hk => by rw [(hf.1 119 (by omega)).1]; exact a3 k hk⟩, a4⟩
/-- the class doesn't read the reference's fields, nor the rows of longs, nor what was made -/
theorem CI.cong {S : Nat → List Nat} {W : Option (List Nat)} {M M1 : MS} (h : CI S W M) (e1 : gA M1 = gA M) (e2 : gL M1 = gL M) (e3 : ∀ o k, o < 97 → gI M1 o k = gI M o k) (e4 : gD M1 = gD M) : CI S W M1 := by
  obtain ⟨g, sl, ⟨b1, ⟨⟨t1, t2⟩, t3⟩, ⟨b3, b4⟩, b5, b6⟩, ⟨r1, r2, r3, r4, r5⟩, ⟨u, k, l1, l2, l3⟩, h4, ⟨⟨⟨m1, p1⟩, ⟨m2, p2⟩, ⟨m3, p3⟩, p4⟩, ⟨m4, p5⟩, p6⟩, ⟨⟨m5, q1⟩, q1'⟩, q2, q3, q4, q5⟩ := h
  have go : ∀ (l : List Nat) (h : Int32), cH M h l → cH M1 h l := by
    intro l
    induction l with
    | nil => intro h hh; exact hh
    | cons i r ih => intro h hh; exact ⟨hh.1, ih _ (by rw [e1]; exact hh.2)⟩
  have rw1 : ∀ {o it : Nat} {l : List Nat}, o < 97 → RW M o it l → RW M1 o it l := fun ho hr => by
    unfold RW
    rw [e3 _ _ ho, e2, e1]
    exact hr
  refine ⟨g, sl, ⟨b1, ⟨⟨by rw [e3 _ _ (by omega)]; exact t1, by rw [e3 _ _ (by omega)]; exact t2⟩, by rw [e2, e1]; exact t3⟩, ⟨by rw [e1]; exact b3, fun b hb => ?_⟩, by unfold TA; rw [e1]; exact b5, by unfold TT; rw [e1]; exact b6⟩, ⟨by rw [e2]; exact r1, by rw [e2]; exact r2, r3, by rw [e1]; exact r4, by rw [e1]; exact r5⟩, ⟨u, k, by rw [e3 _ _ (by omega)]; exact l1, by rw [e3 _ _ (by omega)]; exact l2, l3⟩, h4, ⟨⟨⟨m1, rw1 (by omega) p1⟩, ⟨m2, rw1 (by omega) p2⟩, ⟨m3, rw1 (by omega) p3⟩, by rw [e2]; exact p4⟩, ⟨m4, rw1 (by omega) p5⟩, by rw [e2]; exact p6⟩, ⟨⟨m5, rw1 (by omega) q1⟩, by rw [e2]; exact q1'⟩, by rw [e2]; exact q2, by unfold GX; rw [e4]; exact q3, fun j hj => (q4 j hj).keep (e3 _ _ (by omega)) (by rw [e1]) (by rw [e1]), q5.keep (e3 _ _ (by omega)) (by rw [e1]) (by rw [e2])⟩
  obtain ⟨l, a1, a2, a3, a4⟩ := b4 b hb
  refine ⟨l, ?_, a2, a3, ?_⟩
  · rw [e1]; exact go l _ a1
  · rw [e1]; exact a4
def R97 : List Nat := List.range' 97 26
theorem CI.frr {S : Nat → List Nat} {W : Option (List Nat)} {M M1 : MS} (h : CI S W M) (hf : FrR M M1) : CI S W M1 := by
  have hfr : Fr R97 [] M (M1.1, M1.2.1, M1.2.2.1, gI M, M1.2.2.2.2.1, M1.2.2.2.2.2) := ⟨fun a ha => hf.1 a (by
    refine Classical.byContradiction (fun hn => ha ?_)
    unfold R97
    rw [List.mem_range'_1]
    omega), hf.2.1, fun _ _ _ => rfl, hf.2.2.2.1, hf.2.2.2.2⟩
  have hmem : ∀ a ∈ R97, 97 ≤ a ∧ a < 123 := fun a ha => by
    unfold R97 at ha
    rw [List.mem_range'_1] at ha
    omega
  have h2 := h.later hfr (fun a ha => by have := hmem a ha; omega) (by simp) (fun hw => hw.keep (hfr.gi (by simp)) (hfr.ga (fun q => by have := hmem _ q; omega)) (by rw [hfr.ln]))
  exact h2.cong rfl rfl (fun o k ho => hf.2.2.1 o k (by omega)) rfl
/-- the room that was taken -/
def Rm (M0 M : MS) (k : Nat) : Prop := (cM M).2 + pot M0 ≤ (cM M0).2 + pot M + 6 * k ∧ 64 * (cM M).1 + (cM M0).2 ≤ 64 * (cM M0).1 + (cM M).2 + 58 * k
theorem Rm.pg {M0 M M1 : MS} {k : Nat} (h : Rm M0 M k) (h2 : PG M M1) : Rm M0 M1 k := by unfold Rm PG at *; omega
theorem Rm.up {M0 M : MS} {k : Nat} (h : Rm M0 M k) : Rm M0 M (k + 1) := by unfold Rm at *; omega
theorem Rm.thr {M0 M : MS} {k : Nat} (h : Rm M0 M k) : Rm M0 (aC M) (k + 1) := by
  have e1 : (cM (aC M)).1 = (cM M).1 + 1 := rfl
  have e2 : (cM (aC M)).2 = (cM M).2 + 6 := rfl
  have e3 : pot (aC M) = pot M := rfl
  unfold Rm at *
  rw [e1, e2, e3]
  omega
def LI (M0 : MS) (k : Nat) (M : MS) : Prop := (∃ S W, RI S W M ∧ CI S W M) ∧ gL M 123 = 1 ∧ Rm M0 M k
/-- the law's helper and the reference agree -/
def AG {β : Type} (M0 : MS) (k : Nat) (M : MS) (L : Option (MS × Int32)) (R : MS → Option (MS × β)) (conv : β → Int64) : Prop := ∃ M2 th M3 v, L = some (M2, th) ∧ cLe M M2 ∧ R M2 = some (M3, v) ∧ cLe M2 M3 ∧ gI M3 97 0 = th ∧ (th = 0 → gJ M3 123 0 = conv v) ∧ LI M0 (k + 1) M3
theorem ag_bad {β : Type} {M0 M : MS} {k : Nat} {S : Nat → List Nat} {W : Option (List Nat)} {L : Option (MS × Int32)} {R : MS → Option (MS × β)} {conv : β → Int64} {th : Int32} {v : β} (h1 : RI S W M) (h2 : CI S W M) (h3 : gL M 123 = 1) (h4 : Rm M0 M k) (hL : L = some (aC M, th)) (ht : th ≠ 0) (hR : ∀ M', RI S W M' → RA S W M' (R M') v th) : AG M0 k M L R conv := by
  have hI : RI S W (aC M) := h1
  obtain ⟨M3, r1, r2, r3, r4⟩ := hR (aC M) hI
  have hC : CI S W (aC M) := h2.cong rfl rfl (fun _ _ _ => rfl) rfl
  have hle : cLe M (aC M) := ⟨by show (cM M).1 ≤ (cM M).1 + 1; omega, by show (cM M).2 ≤ (cM M).2 + 6; omega⟩
  exact ⟨aC M, th, M3, v, hL, hle, r1, r3.le, r4, fun q => absurd q ht, ⟨S, W, r2, hC.frr r3⟩, by rw [r3.2.1]; exact h3, h4.thr.pg (PG.of r3.2.2.2.2 r3.2.1)⟩
theorem ag_ok {α β : Type} {M0 M : MS} {k : Nat} {S S' : Nat → List Nat} {W W' : Option (List Nat)} {L : Option (MS × Int32)} {x : Option (MS × α)} {R : MS → Option (MS × β)} {conv : β → Int64} {cv : α → Int64} {u : α} {v : β} (h1 : RI S W M) (h3 : gL M 123 = 1) (h4 : Rm M0 M k) (hx : CA S' W' M x u) (hL : L = cal cM M x fun r1 => (stJ r1.1 123 (0 : Int32) (cv r1.2)).bind fun M2 => some (M2, (0 : Int32))) (hR : ∀ M', RI S W M' → RA S' W' M' (R M') v 0) (he : cv u = conv v) : AG M0 k M L R conv := by
  obtain ⟨M1, x1, x2, x3⟩ := hx
  have hl1 : gL M1 123 = 1 := by rw [(x3.1 123 (by omega)).2.2]; exact h3
  have hst : stJ M1 123 (0 : Int32) (cv u) = some (sJ M1 123 0 (cv u)) := st_ofJ (i := 0) (by omega) (by omega)
  have hL2 : L = some (sJ M1 123 0 (cv u), 0) := by
    rw [hL, cal_some x1 x3.2.2.1.1 x3.2.2.1.2]
    show ((stJ M1 123 (0 : Int32) (cv u)).bind _) = _
    rw [hst, Option.bind_some]
  have hI0 : RI S W M1 := h1.frc x3
  have hI1 : RI S W (sJ M1 123 0 (cv u)) := hI0
  have hC1 : CI S' W' (sJ M1 123 0 (cv u)) := x2.cong rfl rfl (fun _ _ _ => rfl) rfl
  obtain ⟨M3, r1, r2, r3, r4⟩ := hR _ hI1
  refine ⟨_, 0, M3, v, hL2, x3.2.2.1, r1, r3.le, r4, fun _ => ?_, ⟨S', W', r2, hC1.frr r3⟩, by rw [r3.2.1]; exact hl1, ?_⟩
  · rw [(r3.1 123 (by omega)).2, gJ_sJ, if_pos ⟨rfl, rfl⟩, he]
  · have : PG M1 (sJ M1 123 0 (cv u)) := PG.of rfl rfl
    exact ((h4.pg (x3.2.2.2.tr this)).up).pg (PG.of r3.2.2.2.2 r3.2.1)
theorem law_go {β : Type} {M0 M : MS} {k : Nat} {L : Option (MS × Int32)} {R : MS → Option (MS × β)} {conv : β → Int64} {K : MS → Option Unit} (h : AG M0 k M L R conv) : ∃ M3, LI M0 (k + 1) M3 ∧ (cal cM M L fun r4 => cal cM r4.1 (R r4.1) fun r7 => cal cM r7.1 (m_Mo_thrown r7.1) fun r8 => if r8.2 = r4.2 then (if ¬ r4.2 = 0 then K r8.1 else (ldJ r8.1 123 (0 : Int32)).bind fun v9 => if lg_cmp v9 (conv r7.2) = 0 then K r8.1 else none) else none) = K M3 := by
  obtain ⟨M2, th, M3, v, h1, h2, h3, h4, h5, h6, h7⟩ := h
  refine ⟨M3, h7, ?_⟩
  rw [cal_some h1 h2.1 h2.2]
  show cal cM M2 (R M2) _ = _
  rw [cal_some h3 h4.1 h4.2]
  unfold m_Mo_thrown
  rw [cal_same, h5]
  show (if th = th then _ else _) = _
  rw [if_pos rfl]
  show (if ¬ th = 0 then K M3 else (ldJ M3 123 (0 : Int32)).bind fun v9 => if lg_cmp v9 (conv v) = 0 then K M3 else none) = K M3
  by_cases ht : th = 0
  · have hl : ldJ M3 123 (0 : Int32) = some (gJ M3 123 0) := ld_ofJ (i := 0) (by rw [h7.2.1]; omega) (by omega)
    rw [if_neg (fun q => q ht), hl, Option.bind_some, if_pos ((lg_cmp_eq _ _).mpr (h6 ht))]
  · rw [if_pos ht]
theorem sb_c (a : Int32) : (slB a = false ∧ (a < 0 ∨ ¬ a < 16)) ∨ (slB a = true ∧ ¬ (a < 0 ∨ ¬ a < 16) ∧ ∃ n, n < 16 ∧ a = Int32.ofNat n) := by
  cases h : slB a with
  | true =>
    obtain ⟨n, n1, n2⟩ := slB_of h
    refine Or.inr ⟨rfl, ?_, n, n1, n2⟩
    rw [n2, i_lt, i_of (by omega), i_0, show (16 : Int32) = Int32.ofNat 16 from rfl, i_lt_of (by omega) (by omega)]
    omega
  | false =>
    refine Or.inl ⟨rfl, ?_⟩
    unfold slB at h
    rw [decide_eq_false_iff_not] at h
    rw [i_lt, i_lt, i_0, show (16 : Int32).toInt = 16 from rfl]
    omega
theorem rg_c (b : Int32) {h : Nat} (hh : h < 1000) : ((b.toInt < 0 ∨ (h : Int) < b.toInt) ∧ (b < 0 ∨ ¬ b ≤ Int32.ofNat h)) ∨ (¬ (b < 0 ∨ ¬ b ≤ Int32.ofNat h) ∧ ∃ n, n ≤ h ∧ b = Int32.ofNat n) := by
  have e1 : b < 0 ↔ b.toInt < 0 := by rw [i_lt, i_0]
  have e2 : b ≤ Int32.ofNat h ↔ b.toInt ≤ (h : Int) := by rw [i_le, i_of (by omega)]
  rw [e1, e2]
  by_cases hb : b.toInt < 0 ∨ (h : Int) < b.toInt
  · exact Or.inl ⟨hb, by omega⟩
  · refine Or.inr ⟨by omega, b.toInt.toNat, by omega, ?_⟩
    rw [i_eq, i_of (by omega)]
    omega
/-! the thirteen helpers -/
section
variable {M0 M : MS} {k : Nat}
theorem ag_letters (h : LI M0 k M) (a b : Int32) : AG M0 k M (m_Law_letters a b M) (m_Mo_letters a b) Int32.toInt64 := by
  obtain ⟨⟨S, W, h1, h2⟩, h3, h4⟩ := h
  rcases sb_c a with ⟨s1, s2⟩ | ⟨s1, s2, s, hs, rfl⟩
  · exact ag_bad h1 h2 h3 h4 (by unfold m_Law_letters; rw [if_pos s2]) (by decide) (fun M' hI => r_letters_bad1 hI s1)
  rcases rg_c b (h := 16) (by omega) with ⟨t1, t2⟩ | ⟨t1, l, hl, rfl⟩
  · exact ag_bad h1 h2 h3 h4 (by unfold m_Law_letters; rw [if_neg s2]; exact if_pos t2) (by decide) (fun M' hI => r_letters_bad2 hI s1 t1)
  · exact ag_ok h1 h3 h4 (c_letters h2 hs hl) (by unfold m_Law_letters; rw [if_neg s2]; exact if_neg t1) (fun M' hI => r_letters hI hs hl) rfl
theorem ag_join (h : LI M0 k M) (a b c d : Int32) : AG M0 k M (m_Law_join a b c d M) (m_Mo_join a b c d) Int32.toInt64 := by
  obtain ⟨⟨S, W, h1, h2⟩, h3, h4⟩ := h
  rcases sb_c a with ⟨s1, s2⟩ | ⟨s1, s2, s, hs, rfl⟩
  · exact ag_bad h1 h2 h3 h4 (by unfold m_Law_join; rw [if_pos s2]) (by decide) (fun M' hI => r_join_bad1 hI (by rw [s1]; rfl))
  rcases sb_c b with ⟨u1, u2⟩ | ⟨u1, u2, p, hp, rfl⟩
  · exact ag_bad h1 h2 h3 h4 (by unfold m_Law_join; rw [if_neg s2, if_pos u2]) (by decide) (fun M' hI => r_join_bad1 hI (by rw [s1, u1]; rfl))
  rcases sb_c c with ⟨w1, w2⟩ | ⟨w1, w2, q, hq, rfl⟩
  · exact ag_bad h1 h2 h3 h4 (by unfold m_Law_join; rw [if_neg s2, if_neg u2, if_pos w2]) (by decide) (fun M' hI => r_join_bad1 hI (by rw [s1, u1, w1]; rfl))
  rcases rg_c d (h := 2) (by omega) with ⟨t1, t2⟩ | ⟨t1, l, hl, rfl⟩
  · exact ag_bad h1 h2 h3 h4 (by unfold m_Law_join; rw [if_neg s2, if_neg u2, if_neg w2]; exact if_pos t2) (by decide) (fun M' hI => r_join_bad2 hI s1 u1 w1 t1)
  · exact ag_ok h1 h3 h4 (c_join h2 hs hp hq hl) (by unfold m_Law_join; rw [if_neg s2, if_neg u2, if_neg w2]; exact if_neg t1) (fun M' hI => r_join hI hs hp hq hl) rfl
theorem ag_turn (h : LI M0 k M) (a b d : Int32) : AG M0 k M (m_Law_turn a b d M) (m_Mo_turn a b d) Int32.toInt64 := by
  obtain ⟨⟨S, W, h1, h2⟩, h3, h4⟩ := h
  rcases sb_c a with ⟨s1, s2⟩ | ⟨s1, s2, s, hs, rfl⟩
  · exact ag_bad h1 h2 h3 h4 (by unfold m_Law_turn; rw [if_pos s2]) (by decide) (fun M' hI => r_turn_bad1 hI (by rw [s1]; rfl))
  rcases sb_c b with ⟨u1, u2⟩ | ⟨u1, u2, p, hp, rfl⟩
  · exact ag_bad h1 h2 h3 h4 (by unfold m_Law_turn; rw [if_neg s2, if_pos u2]) (by decide) (fun M' hI => r_turn_bad1 hI (by rw [s1, u1]; rfl))
  rcases rg_c d (h := 1) (by omega) with ⟨t1, t2⟩ | ⟨t1, l, hl, rfl⟩
  · exact ag_bad h1 h2 h3 h4 (by unfold m_Law_turn; rw [if_neg s2, if_neg u2]; exact if_pos t2) (by decide) (fun M' hI => r_turn_bad2 hI s1 u1 t1)
  · exact ag_ok h1 h3 h4 (c_turn h2 hs hp hl) (by unfold m_Law_turn; rw [if_neg s2, if_neg u2]; exact if_neg t1) (fun M' hI => r_turn hI hs hp hl) rfl
theorem ag_derive (h : LI M0 k M) (a b d : Int32) : AG M0 k M (m_Law_derive a b d M) (m_Mo_derive a b d) Int32.toInt64 := by
  obtain ⟨⟨S, W, h1, h2⟩, h3, h4⟩ := h
  rcases sb_c a with ⟨s1, s2⟩ | ⟨s1, s2, s, hs, rfl⟩
  · exact ag_bad h1 h2 h3 h4 (by unfold m_Law_derive; rw [if_pos s2]) (by decide) (fun M' hI => r_derive_bad1 hI (by rw [s1]; rfl))
  rcases sb_c b with ⟨u1, u2⟩ | ⟨u1, u2, p, hp, rfl⟩
  · exact ag_bad h1 h2 h3 h4 (by unfold m_Law_derive; rw [if_neg s2, if_pos u2]) (by decide) (fun M' hI => r_derive_bad1 hI (by rw [s1, u1]; rfl))
  rcases rg_c d (h := 3) (by omega) with ⟨t1, t2⟩ | ⟨t1, l, hl, rfl⟩
  · exact ag_bad h1 h2 h3 h4 (by unfold m_Law_derive; rw [if_neg s2, if_neg u2]; exact if_pos t2) (by decide) (fun M' hI => r_derive_bad2 hI s1 u1 t1)
  · exact ag_ok h1 h3 h4 (c_derive h2 hs hp hl) (by unfold m_Law_derive; rw [if_neg s2, if_neg u2]; exact if_neg t1) (fun M' hI => r_derive hI hs hp hl) rfl
def cvB (v : Int32) : Int64 := if v = 0 then 0 else 1
theorem ag_similar (h : LI M0 k M) (a b : Int32) : AG M0 k M (m_Law_similar a b M) (m_Mo_similar a b) cvB := by
  obtain ⟨⟨S, W, h1, h2⟩, h3, h4⟩ := h
  rcases sb_c a with ⟨s1, s2⟩ | ⟨s1, s2, s, hs, rfl⟩
  · exact ag_bad h1 h2 h3 h4 (by unfold m_Law_similar; rw [if_pos s2]) (by decide) (fun M' hI => r_similar_bad hI (by rw [s1]; rfl))
  rcases sb_c b with ⟨u1, u2⟩ | ⟨u1, u2, p, hp, rfl⟩
  · exact ag_bad h1 h2 h3 h4 (by unfold m_Law_similar; rw [if_neg s2, if_pos u2]) (by decide) (fun M' hI => r_similar_bad hI (by rw [s1, u1]; rfl))
  · refine ag_ok (cv := cvB) h1 h3 h4 (c_similar h2 hs hp) ?_ (fun M' hI => r_similar hI hs hp) rfl
    unfold m_Law_similar m_Law_similar_16
    rw [if_neg s2, if_neg u2]
    congr 1
    funext r1
    unfold cvB
    split <;> rfl
theorem ag_has (h : LI M0 k M) (a b c : Int32) : AG M0 k M (m_Law_has a b c M) (m_Mo_has a b c) cvB := by
  obtain ⟨⟨S, W, h1, h2⟩, h3, h4⟩ := h
  rcases sb_c a with ⟨s1, s2⟩ | ⟨s1, s2, s, hs, rfl⟩
  · exact ag_bad h1 h2 h3 h4 (by unfold m_Law_has; rw [if_pos s2]) (by decide) (fun M' hI => r_has_bad1 hI s1)
  rcases rg_c c (h := 16) (by omega) with ⟨t1, t2⟩ | ⟨t1, l, hl, rfl⟩
  · exact ag_bad h1 h2 h3 h4 (by unfold m_Law_has; rw [if_neg s2]; exact if_pos t2) (by decide) (fun M' hI => r_has_bad2 hI s1 t1)
  · obtain ⟨u, u1, u2⟩ := c_has (w := b) h2 hs hl
    refine ag_ok (cv := cvB) (v := u) h1 h3 h4 u1 ?_ (fun M' hI => ?_) rfl
    · unfold m_Law_has m_Law_has_18
      rw [if_neg s2]
      refine (if_neg t1).trans ?_
      congr 1
      funext r1
      unfold cvB
      split <;> rfl
    · obtain ⟨v, v1, v2⟩ := r_has (w := b) hI hs hl
      rw [u2.one v2]
      exact v1
theorem ag_states (h : LI M0 k M) (a : Int32) : AG M0 k M (m_Law_states a M) (m_Mo_states a) Int32.toInt64 := by
  obtain ⟨⟨S, W, h1, h2⟩, h3, h4⟩ := h
  rcases sb_c a with ⟨s1, s2⟩ | ⟨s1, s2, s, hs, rfl⟩
  · exact ag_bad h1 h2 h3 h4 (by unfold m_Law_states; rw [if_pos s2]) (by decide) (fun M' hI => r_states_bad hI s1)
  · obtain ⟨u, u1, u2⟩ := c_states h2 hs
    refine ag_ok (v := u) h1 h3 h4 u1 (by unfold m_Law_states; rw [if_neg s2]) (fun M' hI => ?_) rfl
    obtain ⟨v, v1, v2⟩ := r_states hI hs
    rw [u2.one v2]
    exact v1
theorem ag_languages (h : LI M0 k M) (a : Int32) : AG M0 k M (m_Law_languages a M) (m_Mo_languages a) Int32.toInt64 := by
  obtain ⟨⟨S, W, h1, h2⟩, h3, h4⟩ := h
  rcases sb_c a with ⟨s1, s2⟩ | ⟨s1, s2, s, hs, rfl⟩
  · exact ag_bad h1 h2 h3 h4 (by unfold m_Law_languages; rw [if_pos s2]) (by decide) (fun M' hI => r_languages_bad hI s1)
  · obtain ⟨u, u1, u2⟩ := c_languages h2 hs
    refine ag_ok (v := u) h1 h3 h4 u1 (by unfold m_Law_languages; rw [if_neg s2]) (fun M' hI => ?_) rfl
    obtain ⟨v, v1, v2⟩ := r_languages hI hs
    rw [u2.one v2]
    exact v1
theorem ag_equal (h : LI M0 k M) (a b : Int32) : AG M0 k M (m_Law_equal a b M) (m_Mo_equal a b) Int32.toInt64 := by
  obtain ⟨⟨S, W, h1, h2⟩, h3, h4⟩ := h
  rcases sb_c a with ⟨s1, s2⟩ | ⟨s1, s2, s, hs, rfl⟩
  · exact ag_bad h1 h2 h3 h4 (by unfold m_Law_equal; rw [if_pos s2]) (by decide) (fun M' hI => r_equal_bad hI (by rw [s1]; rfl))
  rcases sb_c b with ⟨u1, u2⟩ | ⟨u1, u2, p, hp, rfl⟩
  · exact ag_bad h1 h2 h3 h4 (by unfold m_Law_equal; rw [if_neg s2, if_pos u2]) (by decide) (fun M' hI => r_equal_bad hI (by rw [s1, u1]; rfl))
  · obtain ⟨u, W', w1, w2⟩ := c_equal h2 hs hp
    refine ag_ok (v := u) h1 h3 h4 w1 (by unfold m_Law_equal; rw [if_neg s2, if_neg u2]) (fun M' hI => ?_) rfl
    obtain ⟨v, W2, v1, v2⟩ := r_equal hI hs hp
    obtain ⟨e1, e2⟩ := w2.one v2
    rw [e1, e2]
    exact v1
theorem ag_words (h : LI M0 k M) (a b : Int32) : AG M0 k M (m_Law_words a b M) (m_Mo_words a b) id := by
  obtain ⟨⟨S, W, h1, h2⟩, h3, h4⟩ := h
  rcases sb_c a with ⟨s1, s2⟩ | ⟨s1, s2, s, hs, rfl⟩
  · exact ag_bad h1 h2 h3 h4 (by unfold m_Law_words; rw [if_pos s2]) (by decide) (fun M' hI => r_words_bad1 hI s1)
  rcases rg_c b (h := 16) (by omega) with ⟨t1, t2⟩ | ⟨t1, l, hl, rfl⟩
  · exact ag_bad h1 h2 h3 h4 (by unfold m_Law_words; rw [if_neg s2]; exact if_pos t2) (by decide) (fun M' hI => r_words_bad2 hI s1 t1)
  · obtain ⟨u, u1, u2⟩ := c_words h2 hs hl
    refine ag_ok (cv := id) (v := u) h1 h3 h4 u1 (by unfold m_Law_words; rw [if_neg s2]; exact if_neg t1) (fun M' hI => ?_) rfl
    obtain ⟨v, v1, v2⟩ := r_words hI hs hl
    rw [u2.one v2]
    exact v1
theorem ag_ends (h : LI M0 k M) (a : Int32) : AG M0 k M (m_Law_ends a M) (m_Mo_ends a) Int32.toInt64 := by
  obtain ⟨⟨S, W, h1, h2⟩, h3, h4⟩ := h
  rcases sb_c a with ⟨s1, s2⟩ | ⟨s1, s2, s, hs, rfl⟩
  · exact ag_bad h1 h2 h3 h4 (by unfold m_Law_ends; rw [if_pos s2]) (by decide) (fun M' hI => r_ends_bad hI s1)
  · obtain ⟨u, u1, u2⟩ := c_ends h2 hs
    refine ag_ok (v := u) h1 h3 h4 u1 (by unfold m_Law_ends; rw [if_neg s2]) (fun M' hI => ?_) rfl
    obtain ⟨v, v1, v2⟩ := r_ends hI hs
    rw [u2.one v2]
    exact v1
theorem ag_find (h : LI M0 k M) (a : Int32) (b : Int64) : AG M0 k M (m_Law_find a b M) (m_Mo_find a b) id := by
  obtain ⟨⟨S, W, h1, h2⟩, h3, h4⟩ := h
  rcases sb_c a with ⟨s1, s2⟩ | ⟨s1, s2, s, hs, rfl⟩
  · exact ag_bad h1 h2 h3 h4 (by unfold m_Law_find; rw [if_pos s2]) (by decide) (fun M' hI => r_find_bad hI s1)
  · obtain ⟨u, u1, u2⟩ := c_find (k := b) h2 hs
    refine ag_ok (cv := id) (v := u) h1 h3 h4 u1 (by unfold m_Law_find; rw [if_neg s2]; rfl) (fun M' hI => ?_) rfl
    obtain ⟨v, v1, v2⟩ := r_find (k := b) hI hs
    rw [u2.one v2]
    exact v1
theorem ag_look (h : LI M0 k M) (a b : Int32) : AG M0 k M (m_Law_look a b M) (m_Mo_look a b) Int32.toInt64 := by
  obtain ⟨⟨S, W, h1, h2⟩, h3, h4⟩ := h
  rcases sb_c a with ⟨s1, s2⟩ | ⟨s1, s2, s, hs, rfl⟩
  · exact ag_bad h1 h2 h3 h4 (by unfold m_Law_look; rw [if_pos s2]) (by decide) (fun M' hI => r_look_bad hI s1)
  · exact ag_ok h1 h3 h4 (c_dlook h2 hs) (by unfold m_Law_look; rw [if_neg s2]) (fun M' hI => r_look hI hs) rfl
end
