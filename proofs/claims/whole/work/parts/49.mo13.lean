/-! STEP 2: what a method may have changed; the reference's order -/
def Fr (R : List Nat) (F : List (Nat × Nat)) (M M1 : MS) : Prop := (∀ a, a ∉ R → gA M1 a = gA M a ∧ gJ M1 a = gJ M a) ∧ gL M1 = gL M ∧ (∀ o k, (o, k) ∉ F → gI M1 o k = gI M o k) ∧ gD M1 = gD M ∧ cM M1 = cM M
theorem Fr.rf {R : List Nat} {F : List (Nat × Nat)} {M : MS} : Fr R F M M := ⟨fun _ _ => ⟨rfl, rfl⟩, rfl, fun _ _ _ => rfl, rfl, rfl⟩
theorem Fr.tr {R : List Nat} {F : List (Nat × Nat)} {M M1 M2 : MS} (h : Fr R F M M1) (h2 : Fr R F M1 M2) : Fr R F M M2 :=
  ⟨fun a ha => ⟨(h2.1 a ha).1.trans (h.1 a ha).1, (h2.1 a ha).2.trans (h.1 a ha).2⟩, h2.2.1.trans h.2.1, fun o k hk => (h2.2.2.1 o k hk).trans (h.2.2.1 o k hk), h2.2.2.2.1.trans h.2.2.2.1, h2.2.2.2.2.trans h.2.2.2.2⟩
theorem Fr.mono {R R' : List Nat} {F F' : List (Nat × Nat)} {M M1 : MS} (h : Fr R F M M1) (hR : R ⊆ R') (hF : F ⊆ F') : Fr R' F' M M1 :=
  ⟨fun a ha => h.1 a (fun q => ha (hR q)), h.2.1, fun o k hk => h.2.2.1 o k (fun q => hk (hF q)), h.2.2.2⟩
theorem Fr.le {R : List Nat} {F : List (Nat × Nat)} {M M1 : MS} (h : Fr R F M M1) : cLe M M1 := cLe.of h.2.2.2.2
theorem Fr.ln {R : List Nat} {F : List (Nat × Nat)} {M M1 : MS} (h : Fr R F M M1) : gL M1 = gL M := h.2.1
theorem Fr.ga {R : List Nat} {F : List (Nat × Nat)} {M M1 : MS} (h : Fr R F M M1) {a : Nat} (ha : a ∉ R) : gA M1 a = gA M a := (h.1 a ha).1
theorem Fr.gi {R : List Nat} {F : List (Nat × Nat)} {M M1 : MS} (h : Fr R F M M1) {o k : Nat} (ha : (o, k) ∉ F) : gI M1 o k = gI M o k := h.2.2.1 o k ha
theorem Fr.stA {R : List Nat} {F : List (Nat × Nat)} {M : MS} {a j : Nat} {x : Int32} (h : a ∈ R) : Fr R F M (sA M a j x) :=
  ⟨fun b hb => ⟨gA_sAn (fun q => hb (q ▸ h)), rfl⟩, rfl, fun _ _ _ => rfl, rfl, rfl⟩
theorem Fr.stI {R : List Nat} {F : List (Nat × Nat)} {M : MS} {o k : Nat} {x : Int32} (h : (o, k) ∈ F) : Fr R F M (sI M o k x) :=
  ⟨fun b hb => ⟨rfl, rfl⟩, rfl, fun o1 k1 hk => by rw [gI_sI, if_neg (fun q => hk (by rw [q.1, q.2]; exact h))], rfl, rfl⟩
theorem Fr.wr {R : List Nat} {F : List (Nat × Nat)} {M : MS} {a j : Nat} {t : List Nat} (h : a ∈ R) : Fr R F M (wr M a j t) :=
  ⟨fun b hb => ⟨by
    funext p
    rw [gA_wr, if_neg (fun (q : b = a ∧ _) => hb (q.1 ▸ h))], rfl⟩, rfl, fun _ _ _ => rfl, rfl, rfl⟩
theorem At.fr {R : List Nat} {F : List (Nat × Nat)} {M M1 : MS} {a i : Nat} {t : List Nat} (hA : At M a i t) (h : Fr R F M M1) (ha : a ∉ R) : At M1 a i t :=
  ⟨by rw [h.ln]; exact hA.1, fun k hk => by rw [h.ga ha]; exact hA.2 k hk⟩
theorem i_dec {m : Nat} (h : 0 < m) (h2 : m < 2147483648) : Int32.ofNat m + -1 = Int32.ofNat (m - 1) := by
  apply Int32.toInt_inj.mp
  rw [i_add (by rw [i_of (by omega), i_m1]; omega) (by rw [i_of (by omega), i_m1]; omega), i_of (by omega), i_of (by omega), i_m1]
  omega
theorem i_pred {m : Nat} (h : 0 < m) (h2 : m < 2147483648) : Int32.ofNat m - 1 = Int32.ofNat (m - 1) := i_sub_of (b := 1) h2 h
theorem i_inc (m : Nat) : Int32.ofNat m + 1 = Int32.ofNat (m + 1) := i_add_of m 1
/-- a part's place and size stand in the rows, and the part at its place -/
def PLi (M : MS) (i : Nat) (q : Nat × List Nat) : Prop := gA M 106 i = Int32.ofNat q.1 ∧ gA M 107 i = Int32.ofNat q.2.length ∧ At M 100 q.1 q.2
def PL (M : MS) (s : Nat) (Q : List (Nat × List Nat)) : Prop := ∀ i q, Q[i]? = some q → PLi M (s + i) q
theorem PL_ins {M : MS} {A B : List (Nat × List Nat)} {q : Nat × List Nat} (h : PL M 0 (A ++ B)) (hq : At M 100 q.1 q.2) :
    PL (sA (sA (shf M A.length (A.length + B.length)) 106 A.length (Int32.ofNat q.1)) 107 A.length (Int32.ofNat q.2.length)) 0 (A ++ q :: B) := by
  have hat : ∀ a t, At M 100 a t → At (sA (sA (shf M A.length (A.length + B.length)) 106 A.length (Int32.ofNat q.1)) 107 A.length (Int32.ofNat q.2.length)) 100 a t := by
    intro a t h
    refine At.sA_ne (by decide) (At.sA_ne (by decide) ⟨h.1, fun k hk => ?_⟩)
    rw [gA_shf, if_neg (by omega)]
    exact h.2 k hk
  intro i p hp
  rw [Nat.zero_add]
  rcases Nat.lt_trichotomy i A.length with hi | hi | hi
  · rw [List.getElem?_append_left hi] at hp
    obtain ⟨h1, h2, h3⟩ := h i p (by rw [List.getElem?_append_left hi]; exact hp)
    rw [Nat.zero_add] at h1 h2
    refine ⟨?_, ?_, hat _ _ h3⟩
    · rw [gA_sA, if_neg (by omega), gA_sA, if_neg (by omega), gA_shf, if_neg (by omega)]
      exact h1
    · rw [gA_sA, if_neg (by omega), gA_sA, if_neg (by omega), gA_shf, if_neg (by omega)]
      exact h2
  · subst hi
    rw [List.getElem?_append_right (Nat.le_refl _), Nat.sub_self] at hp
    simp only [List.getElem?_cons_zero, Option.some.injEq] at hp
    subst hp
    refine ⟨?_, ?_, hat _ _ hq⟩
    · rw [gA_sA, if_neg (by omega), gA_sA, if_pos ⟨rfl, rfl⟩]
    · rw [gA_sA, if_pos ⟨rfl, rfl⟩]
  · rw [List.getElem?_append_right (by omega)] at hp
    obtain ⟨k, rfl⟩ : ∃ k, i = A.length + (k + 1) := ⟨i - A.length - 1, by omega⟩
    rw [show A.length + (k + 1) - A.length = k + 1 by omega, List.getElem?_cons_succ] at hp
    have hk : k < B.length := (List.getElem?_eq_some_iff.mp hp).1
    obtain ⟨h1, h2, h3⟩ := h (A.length + k) p (by rw [List.getElem?_append_right (by omega), show A.length + k - A.length = k by omega]; exact hp)
    rw [Nat.zero_add] at h1 h2
    refine ⟨?_, ?_, hat _ _ h3⟩
    · rw [gA_sA, if_neg (by omega), gA_sA, if_neg (by omega), gA_shf, if_pos (by omega), show A.length + (k + 1) - 1 = A.length + k by omega]
      exact h1
    · rw [gA_sA, if_neg (by omega), gA_sA, if_neg (by omega), gA_shf, if_pos (by omega), show A.length + (k + 1) - 1 = A.length + k by omega]
      exact h2
def OrdQ (M : MS) (q : Nat × List Nat) (D : List (Nat × List Nat)) (M1 : MS) (D1 : List (Nat × List Nat)) : Prop :=
  PL M1 0 D1 ∧ D1.map Prod.snd = ins q.2 (D.map Prod.snd) ∧ Fr [106, 107] [] M M1 ∧ (∀ a p, D.length < p → gA M1 a p = gA M a p) ∧ D1.length ≤ D.length + 1 ∧ ∀ d ∈ D1, d = q ∨ d ∈ D
theorem Fr_shf {M : MS} {m n : Nat} : Fr [106, 107] [] M (shf M m n) := by
  refine ⟨fun a ha => ⟨?_, rfl⟩, rfl, fun _ _ _ => rfl, rfl, rfl⟩
  funext p
  rw [gA_shf, if_neg]
  intro h
  apply ha
  rcases h.1 with e | e <;> rw [e] <;> decide
theorem r_order_put {M : MS} {k4 : Int32 × Int32 × Int32 × MS → Option (MS × Int32)} {l1 l3 : Int32} {q : Nat × List Nat} {A B : List (Nat × List Nat)} (h6 : gL M 106 = 4000) (h7 : gL M 107 = 4000) (hD : PL M 0 (A ++ B)) (hq : At M 100 q.1 q.2) (hl : A.length + B.length < 4000) (hA : ∀ a ∈ A, a.2 < q.2) (hB : ∀ b ∈ B, q.2 < b.2) :
    ∃ M1 D1, m_Mo_order_114 k4 (l1, Int32.ofNat (A ++ B).length, l3, Int32.ofNat q.1, Int32.ofNat q.2.length, Int32.ofNat A.length, Int32.ofNat (A ++ B).length, M) = k4 (l1, Int32.ofNat D1.length, l3 + 1, M1) ∧ OrdQ M q (A ++ B) M1 D1 := by
  have h := r_order114 (M := M) (k4 := k4) (l1 := l1) (l3 := l3) (l4 := Int32.ofNat q.1) (l5 := Int32.ofNat q.2.length) (left := A.length + B.length) (j := A.length) h6 h7 hl (by omega) B.length (A.length + B.length) FU rfl (Nat.le_refl _) (by unfold FU; omega)
  rw [shf_nil] at h
  rw [List.length_append]
  refine ⟨_, A ++ q :: B, ?_, PL_ins hD hq, ?_, ?_, ?_, ?_, ?_⟩
  · rw [show (A ++ q :: B).length = A.length + B.length + 1 by rw [List.length_append, List.length_cons]; omega]
    exact h
  · rw [List.map_append, List.map_append, List.map_cons, ins_split]
    · intro p hp
      obtain ⟨a, ha, rfl⟩ := List.mem_map.mp hp
      exact hA a ha
    · intro p hp
      obtain ⟨a, ha, rfl⟩ := List.mem_map.mp hp
      exact hB a ha
  · exact (Fr_shf.tr (Fr.stA (by decide))).tr (Fr.stA (by decide))
  · intro a p hp
    rw [List.length_append] at hp
    rw [gA_sA, if_neg (by omega), gA_sA, if_neg (by omega), gA_shf, if_neg (by omega)]
  · simp only [List.length_append, List.length_cons]
    omega
  · intro d hd
    simp only [List.mem_append, List.mem_cons] at hd ⊢
    rcases hd with h | h | h
    · exact Or.inr (Or.inl h)
    · exact Or.inl h
    · exact Or.inr (Or.inr h)
theorem r_order71 {M : MS} {k4 : Int32 × Int32 × Int32 × MS → Option (MS × Int32)} {l1 l3 : Int32} {q : Nat × List Nat} {A B : List (Nat × List Nat)} (h6 : gL M 106 = 4000) (h7 : gL M 107 = 4000) (hw : gL M 100 < 1073741824) (hD : PL M 0 (A ++ B)) (hq : At M 100 q.1 q.2) (sq : sm q.2) (sD : ∀ d ∈ A ++ B, sm d.2) (srD : Srt ((A ++ B).map Prod.snd)) (hl : A.length + B.length < 4000) (hB : ∀ b ∈ B, q.2 < b.2) (hA : ∀ A' a, A = A' ++ [a] → ¬ q.2 < a.2) :
    ∃ M1 D1, m_Mo_order_71 k4 l1 (Int32.ofNat (A ++ B).length) l3 (Int32.ofNat q.1) (Int32.ofNat q.2.length) (Int32.ofNat A.length) M = k4 (l1, Int32.ofNat D1.length, l3 + 1, M1) ∧ OrdQ M q (A ++ B) M1 D1 := by
  unfold m_Mo_order_71
  rcases List.eq_nil_or_concat A with rfl | ⟨A', a, rfl⟩
  · rw [if_pos (by decide)]
    exact r_order_put h6 h7 hD hq hl (fun a ha => by cases ha) hB
  · rw [List.concat_eq_append] at *
    have hn := hA A' a rfl
    have hlA : (A' ++ [a]).length = A'.length + 1 := by simp
    obtain ⟨g1, g2, g3⟩ := hD A'.length a (by simp)
    rw [Nat.zero_add] at g1 g2
    rw [hlA] at hl
    have hq1 := hq.1
    have ha1 := g3.1
    obtain ⟨v, e1, e2, e3⟩ := r_compare hq g3 sq (sD a (by simp)) (by omega) (by omega)
    rw [if_neg (by rw [hlA, i_le, i_of (by omega), i_0]; omega), hlA, i_pred (by omega) (by omega), Nat.add_sub_cancel, ld_of (by omega) (by omega), g1]
    simp only [Option.bind_some]
    rw [ld_of (by omega) (by omega), g2]
    simp only [Option.bind_some]
    rw [e1, cal_same]
    by_cases hc : q.2 = a.2
    · rw [if_neg (by rw [i_eq, i_0]; exact fun h => h (e3.mpr hc))]
      refine ⟨M, A' ++ [a] ++ B, rfl, hD, ?_, Fr.rf, fun _ _ _ => rfl, by omega, fun d hd => Or.inr hd⟩
      rw [ins_mem srD]
      rw [hc]
      exact List.mem_map.mpr ⟨a, by simp, rfl⟩
    · rw [if_pos (by show ¬ v = 0; rw [i_eq, i_0]; exact fun h => hc (e3.mp h)), ← hlA]
      refine r_order_put h6 h7 hD hq (by rw [hlA]; exact hl) (fun d hd => ?_) hB
      have haq : a.2 < q.2 := l_tri _ _ hn hc
      rcases List.mem_append.mp hd with h | h
      · refine l_tr ?_ haq
        have s1 : ((A' ++ [a] ++ B).map Prod.snd).Pairwise (fun a b => a < b) := srD
        rw [List.map_append, List.pairwise_append] at s1
        have s2 := s1.1
        rw [List.map_append, List.pairwise_append] at s2
        exact s2.2.2 d.2 (List.mem_map.mpr ⟨d, h, rfl⟩) a.2 (by simp)
      · rw [List.mem_singleton.mp h]
        exact haq
theorem r_order28 {M : MS} {k4 : Int32 × Int32 × Int32 × MS → Option (MS × Int32)} {l1 l3 : Int32} {q : Nat × List Nat} {D : List (Nat × List Nat)} (h6 : gL M 106 = 4000) (h7 : gL M 107 = 4000) (hw : gL M 100 < 1073741824) (hD : PL M 0 D) (hq : At M 100 q.1 q.2) (sq : sm q.2) (sD : ∀ d ∈ D, sm d.2) (srD : Srt (D.map Prod.snd)) (hl : D.length < 4000) :
    ∀ (n : Nat) (A B : List (Nat × List Nat)) (F : Nat), A.length = n → D = A ++ B → (∀ b ∈ B, q.2 < b.2) → n < F →
    ∃ M1 D1, fx (fun (k : Int32 × Int32 × Int32 × Int32 × Int32 × Int32 × MS → Option (MS × Int32)) (i : Int32 × Int32 × Int32 × Int32 × Int32 × Int32 × MS) => m_Mo_order_28b k4 k i.1 i.2.1 i.2.2.1 i.2.2.2.1 i.2.2.2.2.1 i.2.2.2.2.2.1 i.2.2.2.2.2.2) F (l1, Int32.ofNat D.length, l3, Int32.ofNat q.1, Int32.ofNat q.2.length, Int32.ofNat A.length, M) = k4 (l1, Int32.ofNat D1.length, l3 + 1, M1) ∧ OrdQ M q D M1 D1 := by
  intro n
  induction n with
  | zero =>
    intro A B F hn hE hB hF
    cases F with
    | zero => omega
    | succ F =>
      obtain rfl := List.length_eq_zero_iff.mp hn
      have hE2 : D = B := hE
      rw [← hE2] at hB
      show ∃ M1 D1, m_Mo_order_28b k4 _ l1 (Int32.ofNat D.length) l3 (Int32.ofNat q.1) (Int32.ofNat q.2.length) (Int32.ofNat 0) M = _ ∧ _
      unfold m_Mo_order_28b
      rw [if_pos (by decide)]
      exact r_order71 (A := []) (B := D) h6 h7 hw hD hq sq sD srD (by simpa using hl) hB (fun A' a h => by simp at h)
  | succ n ih =>
    intro A B F hn hE hB hF
    cases F with
    | zero => omega
    | succ F =>
      rcases List.eq_nil_or_concat A with rfl | ⟨A', a, rfl⟩
      · simp at hn
      rw [List.concat_eq_append] at *
      subst hE
      have hlA : (A' ++ [a]).length = A'.length + 1 := by simp
      have hlD : (A' ++ [a] ++ B).length = A'.length + 1 + B.length := by rw [List.length_append, hlA]
      show ∃ M1 D1, m_Mo_order_28b k4 _ l1 (Int32.ofNat (A' ++ [a] ++ B).length) l3 (Int32.ofNat q.1) (Int32.ofNat q.2.length) (Int32.ofNat (A' ++ [a]).length) M = _ ∧ _
      unfold m_Mo_order_28b
      obtain ⟨g1, g2, g3⟩ := hD A'.length a (by simp)
      rw [Nat.zero_add] at g1 g2
      have hq1 := hq.1
      have ha1 := g3.1
      obtain ⟨v, e1, e2, e3⟩ := r_compare hq g3 sq (sD a (by simp)) (by omega) (by omega)
      rw [hlA] at hn
      rw [if_neg (by rw [hlA, i_le, i_of (by omega), i_0]; omega), hlA, i_pred (by omega) (by omega), Nat.add_sub_cancel, ld_of (by omega) (by omega), g1]
      simp only [Option.bind_some]
      rw [ld_of (by omega) (by omega), g2]
      simp only [Option.bind_some]
      rw [e1, cal_same]
      by_cases hc : q.2 < a.2
      · rw [if_neg (by show ¬ 0 ≤ v; rw [i_le, i_0]; have := e2.mpr hc; omega)]
        rw [i_dec (by omega) (by omega), Nat.add_sub_cancel]
        exact ih A' (a :: B) F (by omega) (by simp) (fun b hb => by
          rcases List.mem_cons.mp hb with rfl | hb
          · exact hc
          · exact hB b hb) (by omega)
      · rw [if_pos (by show 0 ≤ v; rw [i_le, i_0]; exact Int.not_lt.mp (fun h => hc (e2.mp h))), ← hlA]
        exact r_order71 (A := A' ++ [a]) h6 h7 hw hD hq sq sD srD (by rw [hlA]; omega) hB (fun A2 a2 h => by
          have := List.append_inj' h rfl
          simp only [List.cons.injEq, and_true] at this
          rw [← this.2]
          exact hc)
theorem r_order4 {l1 : Nat} (hl1 : l1 ≤ 4000) : ∀ (R D : List (Nat × List Nat)) (M : MS) (i F : Nat), gL M 106 = 4000 → gL M 107 = 4000 → gL M 100 < 1073741824 → PL M 0 D → PL M i R → (∀ d ∈ D, sm d.2) → (∀ d ∈ R, sm d.2) → Srt (D.map Prod.snd) → D.length ≤ i → i + R.length = l1 → R.length < F →
    ∃ M1 D1, fx (fun (k : Int32 × Int32 × Int32 × MS → Option (MS × Int32)) (i : Int32 × Int32 × Int32 × MS) => m_Mo_order_4b k i.1 i.2.1 i.2.2.1 i.2.2.2) F (Int32.ofNat l1, Int32.ofNat D.length, Int32.ofNat i, M) = some (M1, Int32.ofNat D1.length) ∧ PL M1 0 D1 ∧ D1.map Prod.snd = (R.map Prod.snd).foldl (fun l p => ins p l) (D.map Prod.snd) ∧ Fr [106, 107] [] M M1 ∧ D1.length ≤ l1 ∧ ∀ d ∈ D1, d ∈ R ∨ d ∈ D := by
  intro R
  induction R with
  | nil =>
    intro D M i F h6 h7 hw hD hR sD sR srD hle hi hF
    rw [List.length_nil] at hi hF
    cases F with
    | zero => omega
    | succ F =>
      show ∃ M1 D1, m_Mo_order_4b _ (Int32.ofNat l1) (Int32.ofNat D.length) (Int32.ofNat i) M = _ ∧ _
      unfold m_Mo_order_4b
      rw [if_pos (by rw [i_le_of (by omega) (by omega)]; omega)]
      exact ⟨M, D, rfl, hD, rfl, Fr.rf, by omega, fun d hd => Or.inr hd⟩
  | cons q R ih =>
    intro D M i F h6 h7 hw hD hR sD sR srD hle hi hF
    rw [List.length_cons] at hi hF
    cases F with
    | zero => omega
    | succ F =>
      show ∃ M1 D1, m_Mo_order_4b _ (Int32.ofNat l1) (Int32.ofNat D.length) (Int32.ofNat i) M = _ ∧ _
      unfold m_Mo_order_4b
      obtain ⟨g1, g2, g3⟩ := hR 0 q rfl
      rw [Nat.add_zero] at g1 g2
      rw [if_neg (by rw [i_le_of (by omega) (by omega)]; omega), ld_of (by omega) (by omega), g1]
      simp only [Option.bind_some]
      rw [ld_of (by omega) (by omega), g2]
      simp only [Option.bind_some]
      obtain ⟨M1, D1, e1, o1, o2, o3, o4, o5, o6⟩ := r_order28 (k4 := fx (fun (k : Int32 × Int32 × Int32 × MS → Option (MS × Int32)) (i : Int32 × Int32 × Int32 × MS) => m_Mo_order_4b k i.1 i.2.1 i.2.2.1 i.2.2.2) F) (l1 := Int32.ofNat l1) (l3 := Int32.ofNat i) h6 h7 hw hD g3 (sR q List.mem_cons_self) sD srD (by omega) D.length D [] FU rfl (by simp) (fun b hb => by cases hb) (by unfold FU; omega)
      have e1' : m_Mo_order_28 (fx (fun (k : Int32 × Int32 × Int32 × MS → Option (MS × Int32)) (i : Int32 × Int32 × Int32 × MS) => m_Mo_order_4b k i.1 i.2.1 i.2.2.1 i.2.2.2) F) (Int32.ofNat l1, Int32.ofNat D.length, Int32.ofNat i, Int32.ofNat q.1, Int32.ofNat q.2.length, Int32.ofNat D.length, M) = _ := e1
      rw [i_inc] at e1'
      have sD1 : ∀ d ∈ D1, sm d.2 := fun d hd => by
        rcases o6 d hd with rfl | h
        · exact sR d List.mem_cons_self
        · exact sD d h
      have hl1' : D1.length ≤ i + 1 := by omega
      obtain ⟨M2, D2, f1, f2, f3, f4, f5, f6⟩ := ih D1 M1 (i + 1) F (by rw [o3.ln]; exact h6) (by rw [o3.ln]; exact h7) (by rw [o3.ln]; exact hw) o1 (fun j p hp => by
        obtain ⟨x1, x2, x3⟩ := hR (j + 1) p (by rw [List.getElem?_cons_succ]; exact hp)
        rw [show i + (j + 1) = i + 1 + j by omega] at x1 x2
        exact ⟨by rw [o4 _ _ (by omega)]; exact x1, by rw [o4 _ _ (by omega)]; exact x2, x3.fr o3 (by decide)⟩) sD1 (fun d hd => sR d (List.mem_cons_of_mem _ hd)) (by rw [o2]; exact ins_srt srD) hl1' (by omega) (by omega)
      refine ⟨M2, D2, e1'.trans f1, f2, ?_, o3.tr f4, f5, fun d hd => ?_⟩
      · rw [f3, o2]
        rfl
      · rcases f6 d hd with h | h
        · exact Or.inl (List.mem_cons_of_mem _ h)
        · rcases o6 d h with rfl | h
          · exact Or.inl List.mem_cons_self
          · exact Or.inr h
/-- order: the parts are put into a rising row, each once -/
theorem r_order {M : MS} {R : List (Nat × List Nat)} (h6 : gL M 106 = 4000) (h7 : gL M 107 = 4000) (hw : gL M 100 < 1073741824) (hR : PL M 0 R) (sR : ∀ d ∈ R, sm d.2) (hl : R.length ≤ 4000) :
    ∃ M1 D1, m_Mo_order (Int32.ofNat R.length) M = some (M1, Int32.ofNat D1.length) ∧ PL M1 0 D1 ∧ D1.map Prod.snd = srt (R.map Prod.snd) ∧ Fr [106, 107] [] M M1 ∧ D1.length ≤ R.length ∧ ∀ d ∈ D1, d ∈ R := by
  obtain ⟨M1, D1, f1, f2, f3, f4, f5, f6⟩ := r_order4 hl R [] M 0 FU h6 h7 hw (fun i q h => by simp at h) hR (fun d hd => by cases hd) sR List.Pairwise.nil (Nat.le_refl _) (Nat.zero_add _) (by unfold FU; omega)
  refine ⟨M1, D1, f1, f2, f3, f4, f5, fun d hd => ?_⟩
  rcases f6 d hd with h | h
  · exact h
  · cases h
