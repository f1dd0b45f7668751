/-! STEP 2: the reference's stack of derivatives -/
theorem NS_mk {x : Nat} {ps : List (List Nat)} (hx : ar x = ps.length) (hp : ∀ p ∈ ps, wf p) : NS (x :: ps.flatten) = (if x % 8 = 1 ∨ x % 8 = 7 then true else if x % 8 = 3 ∨ x % 8 = 5 then ps.all NS else if x % 8 = 4 then ps.any NS else if x % 8 = 6 then !(ps.any NS) else false) := by
  unfold NS
  rw [dv_mk hx hp]
  show (if x % 8 = 1 ∨ x % 8 = 7 then true else if x % 8 = 3 ∨ x % 8 = 5 then (ps.map (dv 0)).all (fun k => k.2.2) else if x % 8 = 4 then (ps.map (dv 0)).any (fun k => k.2.2) else if x % 8 = 6 then !((ps.map (dv 0)).any (fun k => k.2.2)) else false) = _
  rw [List.all_map, List.any_map]
  rfl
def fO (c : Nat) (ps : List (List Nat)) : Nat := (ps.map (fun p => (DS c p).length)).sum
theorem fO_cons (c : Nat) (p : List Nat) (ps : List (List Nat)) : fO c (p :: ps) = (DS c p).length + fO c ps := by
  unfold fO
  rw [List.map_cons, List.sum_cons]
theorem fO_app (c : Nat) (a b : List (List Nat)) : fO c (a ++ b) = fO c a + fO c b := by
  unfold fO
  rw [List.map_append, List.sum_append]
theorem fO_le {c : Nat} {ps : List (List Nat)} (h : ∀ p ∈ ps, wf p) (hl : ps.flatten.length ≤ 300) : fO c ps ≤ 45450 := by
  have h1 : 2 * fO c ps ≤ (ps.map (fun p => p.length * (p.length + 3))).sum := by
    clear hl
    induction ps with
    | nil => simp [fO]
    | cons p ps ih =>
      have := ih (fun q hq => h q (List.mem_cons_of_mem _ hq))
      have := DS_len (c := c) p (h p List.mem_cons_self)
      rw [fO_cons, List.map_cons, List.sum_cons]
      omega
  have h2 := sq_sum ps
  have h3 : ps.flatten.length * (ps.flatten.length + 3) ≤ 300 * 303 := Nat.mul_le_mul hl (by omega)
  omega
def b01 (b : Bool) : Int32 := if b = true then 1 else 0
theorem nb_b01 (b : Bool) : nb (b01 b) = b01 b := by cases b <;> decide
theorem b01_0 (b : Bool) : b01 b = 0 ↔ b = false := by cases b <;> decide
/-- the stack: for each part, the last at the bottom, where its derivative begins, how long it is, where the part ends, whether it has the empty word -/
def SI (M : MS) (c e : Nat) (ps : List (List Nat)) : Prop := match ps with
  | [] => True
  | p :: r => (gA M 102 r.length = Int32.ofNat (fO c r) ∧ gA M 103 r.length = Int32.ofNat (DS c p).length ∧ gA M 104 r.length = Int32.ofNat (e - r.flatten.length) ∧ gA M 105 r.length = b01 (NS p) ∧ At M 100 (fO c r) (DS c p)) ∧ SI M c e r
theorem SI.app {M : MS} {c e : Nat} : ∀ {a b : List (List Nat)}, SI M c e (a ++ b) → SI M c e b := by
  intro a
  induction a with
  | nil => intro b h; exact h
  | cons p a ih => intro b h; exact ih h.2
/-- what changes before a place: nothing on the stack, nothing in w below the fill -/
def DF (fill : Nat) (M M1 : MS) : Prop := Fr [100, 101, 106, 107] [(97, 9), (97, 10), (97, 13)] M M1 ∧ ∀ p, p < fill → gA M1 100 p = gA M 100 p
theorem DF.rf {fill : Nat} {M : MS} : DF fill M M := ⟨Fr.rf, fun _ _ => rfl⟩
theorem DF.tr {fill : Nat} {M M1 M2 : MS} (h : DF fill M M1) (h2 : DF fill M1 M2) : DF fill M M2 := ⟨h.1.tr h2.1, fun p hp => (h2.2 p hp).trans (h.2 p hp)⟩
theorem DF.mono {fill f2 : Nat} {M M1 : MS} (h : DF fill M M1) (hf : f2 ≤ fill) : DF f2 M M1 := ⟨h.1, fun p hp => h.2 p (by omega)⟩
theorem DF.of {fill : Nat} {M M1 : MS} (h : Fr [101, 106, 107] [(97, 9), (97, 10), (97, 13)] M M1) : DF fill M M1 := ⟨h.mono (by decide) (by decide), fun p _ => by rw [h.ga (by decide)]⟩
theorem UF.df {fill : Nat} {M M1 : MS} (h : UF fill M M1) : DF fill M M1 := ⟨h.1.mono (by decide) (by decide), h.2⟩
theorem DF.at {fill : Nat} {M M1 : MS} (h : DF fill M M1) {i : Nat} {t : List Nat} (hi : i + t.length ≤ fill) (hA : At M 100 i t) : At M1 100 i t :=
  ⟨by rw [h.1.ln]; exact hA.1, fun k hk => by rw [h.2 _ (by omega)]; exact hA.2 k hk⟩
theorem DF.wr {fill j : Nat} {M : MS} {t : List Nat} (h : fill ≤ j) : DF fill M (wr M 100 j t) :=
  ⟨Fr.wr (by decide), fun p hp => by rw [gA_wr, if_neg (by omega)]⟩
theorem SI.df {fill : Nat} {M M1 : MS} (h : DF fill M M1) {c e : Nat} : ∀ {ps : List (List Nat)}, fO c ps ≤ fill → SI M c e ps → SI M1 c e ps := by
  intro ps
  induction ps with
  | nil => intro _ _; exact True.intro
  | cons p r ih =>
    intro hf hS
    rw [fO_cons] at hf
    obtain ⟨⟨h1, h2, h3, h4, h5⟩, h6⟩ := hS
    exact ⟨⟨by rw [h.1.ga (by decide)]; exact h1, by rw [h.1.ga (by decide)]; exact h2, by rw [h.1.ga (by decide)]; exact h3, by rw [h.1.ga (by decide)]; exact h4, h.at (by omega) h5⟩, ih (by omega) h6⟩
/-- lengths of the reference's rows -/
def RL (g : Nat → Nat) : Prop := g 100 = 130000 ∧ g 101 = 130000 ∧ (g 102 = 400 ∧ g 103 = 400 ∧ g 104 = 400 ∧ g 105 = 400) ∧ g 106 = 4000 ∧ g 107 = 4000
def DInv (M : MS) (c e : Nat) (ps : List (List Nat)) : Prop := SI M c e ps ∧ gI M 97 9 = Int32.ofNat ps.length ∧ gI M 97 10 = Int32.ofNat (fO c ps)
def RD : List Nat := [100, 101, 102, 103, 104, 105, 106, 107]
def FD : List (Nat × Nat) := [(97, 9), (97, 10), (97, 13)]
theorem DF.fr {fill : Nat} {M M1 : MS} (h : DF fill M M1) : Fr RD FD M M1 := h.1.mono (by decide) (by decide)
theorem SI_put {M M2 : MS} {c e fill : Nat} : ∀ {ps : List (List Nat)} {n : Nat}, ps.length ≤ n → fO c ps ≤ fill → gL M2 = gL M → (∀ a ∈ [102, 103, 104, 105], ∀ i, i < n → gA M2 a i = gA M a i) → (∀ p, p < fill → gA M2 100 p = gA M 100 p) → SI M c e ps → SI M2 c e ps := by
  intro ps
  induction ps with
  | nil => intro _ _ _ _ _ _ _; exact True.intro
  | cons p r ih =>
    intro n hn hf hL h1 h2 hS
    rw [fO_cons] at hf
    rw [List.length_cons] at hn
    obtain ⟨⟨q1, q2, q3, q4, q5⟩, q6⟩ := hS
    refine ⟨⟨?_, ?_, ?_, ?_, ?_, ?_⟩, ih (n := n) (by omega) (by omega) hL h1 h2 q6⟩
    · rw [h1 102 (by decide) _ (by omega)]; exact q1
    · rw [h1 103 (by decide) _ (by omega)]; exact q2
    · rw [h1 104 (by decide) _ (by omega)]; exact q3
    · rw [h1 105 (by decide) _ (by omega)]; exact q4
    · rw [hL]; exact q5.1
    · intro k hk
      rw [h2 _ (by omega)]
      exact q5.2 k hk
/-- place: the new part comes on top -/
theorem d_place {M : MS} {c e : Nat} {p : List Nat} {r : List (List Nat)} {l3 l4 : Int32} (hL : RL (gL M)) (hS : SI M c e r) (h9 : gI M 97 9 = Int32.ofNat r.length) (hA : At M 101 0 (DS c p)) (hf : fO c r + (DS c p).length ≤ 130000) (hr : r.length < 400) (e3 : l3 = Int32.ofNat (e - r.flatten.length)) (e4 : l4 = b01 (NS p)) :
    ∃ M2, m_Mo_place (Int32.ofNat (fO c r)) (Int32.ofNat (DS c p).length) l3 l4 M = some (M2, ()) ∧ DInv M2 c e (p :: r) ∧ Fr RD FD M M2 := by
  subst e3 e4
  refine ⟨_, r_place (tp := r.length) hL.2.2.1 h9 hr hA (by rw [hL.1]; exact hf) (by omega), ⟨⟨⟨?_, ?_, ?_, ?_, ?_, ?_⟩, ?_⟩, ?_, ?_⟩, ?_⟩
  · unfold plc
    rw [gA_sI, gA_sI, gA_sA, if_neg (by omega), gA_sA, if_neg (by omega), gA_sA, if_neg (by omega), gA_sA, if_pos ⟨rfl, rfl⟩]
  · unfold plc
    rw [gA_sI, gA_sI, gA_sA, if_neg (by omega), gA_sA, if_neg (by omega), gA_sA, if_pos ⟨rfl, rfl⟩]
  · unfold plc
    rw [gA_sI, gA_sI, gA_sA, if_neg (by omega), gA_sA, if_pos ⟨rfl, rfl⟩]
  · unfold plc
    rw [gA_sI, gA_sI, gA_sA, if_pos ⟨rfl, rfl⟩, nb_b01]
  · show _ ≤ gL M 100
    rw [hL.1]
    exact hf
  · intro k hk
    have h := (At_wr (M := M) (b := 100) (j := fO c r) (t := DS c p) (by rw [hL.1]; exact hf)).2 k hk
    unfold plc
    rw [gA_sI, gA_sI, gA_sA, if_neg (by omega), gA_sA, if_neg (by omega), gA_sA, if_neg (by omega), gA_sA, if_neg (by omega)]
    exact h
  · refine SI_put (M := M) (n := r.length) (fill := fO c r) (Nat.le_refl _) (Nat.le_refl _) rfl (fun a ha i hi => ?_) (fun p hp => ?_) hS
    · have ha2 : a = 102 ∨ a = 103 ∨ a = 104 ∨ a = 105 := by
        simp only [List.mem_cons, List.not_mem_nil, or_false] at ha
        exact ha
      unfold plc
      rw [gA_sI, gA_sI, gA_sA, if_neg (by omega), gA_sA, if_neg (by omega), gA_sA, if_neg (by omega), gA_sA, if_neg (by omega), gA_wr, if_neg (by omega)]
    · unfold plc
      rw [gA_sI, gA_sI, gA_sA, if_neg (by omega), gA_sA, if_neg (by omega), gA_sA, if_neg (by omega), gA_sA, if_neg (by omega), gA_wr, if_neg (by omega)]
  · unfold plc
    rw [gI_sI, if_pos ⟨rfl, rfl⟩]
    rfl
  · unfold plc
    rw [gI_sI, if_neg (by omega), gI_sI, if_pos ⟨rfl, rfl⟩, fO_cons, Nat.add_comm]
  · unfold plc
    exact ((((((Fr.wr (by decide)).tr (Fr.stA (by decide))).tr (Fr.stA (by decide))).tr (Fr.stA (by decide))).tr (Fr.stA (by decide))).tr (Fr.stI (by decide))).tr (Fr.stI (by decide))
/-! part, told by what it brings -/
theorem pt_sub {s : Nat} {t p : List Nat} (h : wf t) (hp : p ∈ pt s t) : ∀ x ∈ p, x ∈ t := by
  unfold pt at hp
  split at hp
  · intro x hx
    rw [(pts_spec h).1]
    exact List.mem_cons_of_mem _ (List.mem_flatten.mpr ⟨p, hp, hx⟩)
  · rw [List.mem_singleton.mp hp]
    exact fun x hx => hx
theorem pos_at {M : MS} : ∀ (ps : List (List Nat)) (i : Nat), At M 100 i ps.flatten → ∀ q ∈ pos i ps, At M 100 q.1 q.2 ∧ q.1 + q.2.length ≤ i + ps.flatten.length := by
  intro ps
  induction ps with
  | nil => intro i _ q hq; cases hq
  | cons p r ih =>
    intro i hA q hq
    rw [List.flatten_cons] at hA
    rw [List.flatten_cons, List.length_append]
    have hq : q ∈ (i, p) :: pos (i + p.length) r := hq
    rcases List.mem_cons.mp hq with rfl | hq
    · exact ⟨hA.app.1, by show i + p.length ≤ _; omega⟩
    · have := ih (i + p.length) hA.app.2 q hq
      exact ⟨this.1, by omega⟩
theorem ptA_at {M : MS} {s at0 : Nat} {t : List Nat} (h : wf t) (hA : At M 100 at0 t) : ∀ q ∈ ptA s at0 t, At M 100 q.1 q.2 ∧ q.1 + q.2.length ≤ at0 + t.length := by
  intro q hq
  unfold ptA at hq
  split at hq
  · have e := (pts_spec h).1
    have hA2 := hA
    rw [e] at hA2
    have := pos_at (pts t) (at0 + 1) hA2.cons.2.2 q hq
    have hl := congrArg List.length e
    rw [List.length_cons] at hl
    exact ⟨this.1, by omega⟩
  · rw [List.mem_singleton.mp hq]
    exact ⟨hA, Nat.le_refl _⟩
theorem pshs_all {Q : List (Nat × List Nat)} : ∀ {M : MS} {P : List (Nat × List Nat)}, PL M 0 P → gI M 97 13 = Int32.ofNat P.length → (∀ q ∈ Q, At M 100 q.1 q.2) → PL (pshs M P.length Q) 0 (P ++ Q) ∧ gI (pshs M P.length Q) 97 13 = Int32.ofNat (P ++ Q).length ∧ Fr [106, 107] [(97, 13)] M (pshs M P.length Q) := by
  induction Q with
  | nil =>
    intro M P h1 h2 _
    rw [List.append_nil]
    exact ⟨h1, h2, Fr.rf⟩
  | cons q Q ih =>
    intro M P h1 h2 h3
    have hfr : Fr [106, 107] [(97, 13)] M (psh M P.length q.1 q.2.length) := ((Fr.stA (by decide)).tr (Fr.stA (by decide))).tr (Fr.stI (by decide))
    have hPL : PL (psh M P.length q.1 q.2.length) 0 (P ++ [q]) := by
      intro j p hp
      rw [Nat.zero_add]
      rcases Nat.lt_or_ge j P.length with hi | hi
      · rw [List.getElem?_append_left hi] at hp
        obtain ⟨g1, g2, g3⟩ := h1 j p hp
        rw [Nat.zero_add] at g1 g2
        refine ⟨?_, ?_, g3.fr hfr (by decide)⟩
        · unfold psh
          rw [gA_sI, gA_sA, if_neg (by omega), gA_sA, if_neg (by omega)]
          exact g1
        · unfold psh
          rw [gA_sI, gA_sA, if_neg (by omega), gA_sA, if_neg (by omega)]
          exact g2
      · rw [List.getElem?_append_right hi] at hp
        have hi2 := (List.getElem?_eq_some_iff.mp hp).1
        simp only [List.length_singleton] at hi2
        have hi3 : j = P.length := by omega
        subst hi3
        rw [Nat.sub_self] at hp
        simp only [List.getElem?_cons_zero, Option.some.injEq] at hp
        subst hp
        refine ⟨?_, ?_, (h3 q List.mem_cons_self).fr hfr (by decide)⟩
        · unfold psh
          rw [gA_sI, gA_sA, if_neg (by omega), gA_sA, if_pos ⟨rfl, rfl⟩]
        · unfold psh
          rw [gA_sI, gA_sA, if_pos ⟨rfl, rfl⟩]
    have hlen : (P ++ [q]).length = P.length + 1 := by rw [List.length_append, List.length_singleton]
    have h := ih (M := psh M P.length q.1 q.2.length) (P := P ++ [q]) hPL (by rw [gI_psh, hlen]) (fun x hx => (h3 x (List.mem_cons_of_mem _ hx)).fr hfr (by decide))
    rw [hlen, List.append_assoc] at h
    exact ⟨h.1, h.2.1, hfr.tr h.2.2⟩
theorem d_part {M : MS} {at0 s : Nat} {t : List Nat} {P : List (Nat × List Nat)} (hs : s < 8) (wt : wf t) (st : sm t) (hA : At M 100 at0 t) (hP : PL M 0 P) (h1 : gI M 97 13 = Int32.ofNat P.length) (hL : RL (gL M)) (h4 : P.length + (pt s t).length ≤ 4000) :
    ∃ M1, m_Mo_part (Int32.ofNat at0) (Int32.ofNat t.length) (Int32.ofNat s) M = some (M1, ()) ∧ PL M1 0 (P ++ ptA s at0 t) ∧ gI M1 97 13 = Int32.ofNat (P ++ ptA s at0 t).length ∧ Fr [106, 107] [(97, 13)] M M1 := by
  have hl := hA.1
  rw [hL.1] at hl
  have h := pshs_all (Q := ptA s at0 t) hP h1 (fun q hq => (ptA_at wt hA q hq).1)
  exact ⟨_, r_part hs wt st hA h1 hL.2.2.2.1 hL.2.2.2.2 h4 (by omega), h⟩
