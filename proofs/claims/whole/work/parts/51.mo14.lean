/-! STEP 2: the reference's unite -/
def opL (s a b : Nat) : Nat := if s = 4 then a ||| b else a &&& b
def clB (p : List Nat) : Bool := decide (hd p % 8 = 2)
def uniE (s : Nat) (K : List (List Nat)) (l3 : Nat) (l4 : Bool) : List Nat := if l4 = true ∧ l3 = 0 then [0] else mkS s (srt (K ++ if l4 = true then [[2 + 8 * l3]] else []))
def uniL (s : Nat) (R K : List (List Nat)) (l3 : Nat) (l4 : Bool) : List Nat := match R with
  | [] => uniE s K l3 l4
  | p :: R => if p = swS s then swS s else if p = neS s then uniL s R K l3 l4 else if hd p % 8 = 2 then uniL s R K (opL s l3 (hd p / 8)) true else uniL s R (K ++ [p]) l3 l4
theorem hd_neS (s : Nat) : ¬ hd (neS s) % 8 = 2 := by
  unfold neS
  split <;> decide
theorem hd_swS (s : Nat) : ¬ hd (swS s) % 8 = 2 := by
  unfold swS
  split <;> decide
theorem uniL_eq (s : Nat) : ∀ (R K : List (List Nat)) (l3 : Nat) (l4 : Bool), uniL s R K l3 l4 = if swS s ∈ R then swS s else uniE s (K ++ R.filter (fun p => decide (¬ hd p % 8 = 2 ∧ p ≠ neS s))) (((R.filter (fun p => decide (hd p % 8 = 2))).map (fun p => hd p / 8)).foldl (opL s) l3) (l4 || decide (R.filter (fun p => decide (hd p % 8 = 2)) ≠ [])) := by
  intro R
  induction R with
  | nil =>
    intro K l3 l4
    simp [uniL]
  | cons p R ih =>
    intro K l3 l4
    unfold uniL
    by_cases h1 : p = swS s
    · rw [if_pos h1, if_pos (by rw [h1]; exact List.mem_cons_self)]
    · have hm : (swS s ∈ p :: R) ↔ swS s ∈ R := by
        rw [List.mem_cons]
        exact ⟨fun h => h.resolve_left (fun q => h1 q.symm), Or.inr⟩
      rw [if_neg h1]
      simp only [hm]
      by_cases h2 : p = neS s
      · have h3 := hd_neS s
        rw [if_pos h2, ih, List.filter_cons_of_neg (by rw [h2]; simp), List.filter_cons_of_neg (by rw [h2]; simpa using h3)]
      · rw [if_neg h2]
        by_cases h3 : hd p % 8 = 2
        · rw [if_pos h3, ih, List.filter_cons_of_neg (by simp [h3]), List.filter_cons_of_pos (by simpa using h3)]
          simp
        · rw [if_neg h3, ih, List.filter_cons_of_pos (by simp [h3, h2]), List.filter_cons_of_neg (by simpa using h3), List.append_assoc]
          rfl
theorem uniL_uni (s : Nat) (ps : List (List Nat)) : uniL s ps [] (if s = 4 then 0 else 15) false = uni s ps := by
  rw [uniL_eq]
  unfold uni
  by_cases h1 : swS s ∈ ps
  · rw [if_pos h1, if_pos h1]
  · rw [if_neg h1, if_neg h1]
    have e : ((ps.filter (fun p => decide (hd p % 8 = 2))).map (fun p => hd p / 8)).foldl (opL s) (if s = 4 then 0 else 15) = ltS s (ps.filter (fun p => decide (hd p % 8 = 2))) := rfl
    rw [e]
    unfold uniE
    by_cases h2 : ps.filter (fun p => decide (hd p % 8 = 2)) = []
    · rw [h2]
      simp
    · have : (false || decide (ps.filter (fun p => decide (hd p % 8 = 2)) ≠ [])) = true := by simp only [Bool.false_or, decide_eq_true_eq]; exact h2
      rw [this, if_neg h2]
      by_cases h3 : ltS s (ps.filter (fun p => decide (hd p % 8 = 2))) = 0
      · rw [if_pos ⟨rfl, h3⟩, if_pos ⟨h2, h3⟩]
      · rw [if_neg (fun (q : true = true ∧ _) => h3 q.2), if_neg (fun (q : _ ∧ _) => h3 q.2), if_pos rfl]
        rfl
theorem cal_le {α β : Type} {M : MS} {r : MS × β} {k : MS × β → Option α} (h : cLe M r.1) : cal cM M (some r) k = k r := cal_some rfl h.1 h.2
theorem cal_wr {α β : Type} {M : MS} {a j : Nat} {t : List Nat} {v : β} {k : MS × β → Option α} : cal cM M (some (wr M a j t, v)) k = k (wr M a j t, v) := cal_some rfl (Nat.le_refl _) (Nat.le_refl _)
theorem i_or_of (a b : Nat) : Int32.ofNat a ||| Int32.ofNat b = Int32.ofNat (a ||| b) := by
  apply Int32.toBitVec_inj.mp
  rw [Int32.toBitVec_or]
  show BitVec.ofNat 32 a ||| BitVec.ofNat 32 b = BitVec.ofNat 32 (a ||| b)
  rw [BitVec.ofNat_or]
theorem i_and_of (a b : Nat) : Int32.ofNat a &&& Int32.ofNat b = Int32.ofNat (a &&& b) := by
  apply Int32.toBitVec_inj.mp
  rw [Int32.toBitVec_and]
  show BitVec.ofNat 32 a &&& BitVec.ofNat 32 b = BitVec.ofNat 32 (a &&& b)
  rw [BitVec.ofNat_and]
theorem i_shl3 (a : Nat) : Int32.ofNat a <<< ((3 : Int32) &&& 31) = Int32.ofNat (8 * a) := by
  apply Int32.toBitVec_inj.mp
  show BitVec.ofNat 32 a <<< (3 : Nat) = BitVec.ofNat 32 (8 * a)
  apply BitVec.eq_of_toNat_eq
  rw [BitVec.toNat_shiftLeft, BitVec.toNat_ofNat, BitVec.toNat_ofNat, Nat.shiftLeft_eq]
  omega
theorem or_8 {s : Nat} (hs : s < 8) (a : Nat) : s ||| 8 * a = s + 8 * a := by
  have := Nat.two_pow_add_eq_or_of_lt (i := 3) (b := s) (by omega) a
  rw [Nat.or_comm, Nat.add_comm]
  exact this.symm
/-- what unite may have changed: nothing in w below the place where it may write -/
def UF (fill : Nat) (M M1 : MS) : Prop := Fr [100, 101, 106, 107] [(97, 13)] M M1 ∧ ∀ p, p < fill → gA M1 100 p = gA M 100 p
theorem UF.tr {fill : Nat} {M M1 M2 : MS} (h : UF fill M M1) (h2 : UF fill M1 M2) : UF fill M M2 := ⟨h.1.tr h2.1, fun p hp => (h2.2 p hp).trans (h.2 p hp)⟩
theorem UF.at {fill : Nat} {M M1 : MS} (h : UF fill M M1) {i : Nat} {t : List Nat} (hi : i + t.length ≤ fill) (hA : At M 100 i t) : At M1 100 i t :=
  ⟨by rw [h.1.ln]; exact hA.1, fun k hk => by rw [h.2 _ (by omega)]; exact hA.2 k hk⟩
theorem UF.of {fill : Nat} {M M1 : MS} (h : Fr [101, 106, 107] [(97, 13)] M M1) : UF fill M M1 := ⟨h.mono (by decide) (by decide), fun p _ => by rw [h.ga (by decide)]⟩
theorem UF.rf {fill : Nat} {M : MS} : UF fill M M := ⟨Fr.rf, fun _ _ => rfl⟩
theorem PLi_wr {M : MS} {i : Nat} {q : Nat × List Nat} {u : List Nat} (h : PLi M i q) : PLi (wr M 101 0 u) i q :=
  ⟨by rw [gA_wr, if_neg (by omega)]; exact h.1, by rw [gA_wr, if_neg (by omega)]; exact h.2.1, At_wr_ne (by decide) h.2.2⟩
theorem r_unite310 {M : MS} {k298 : Int32 × Int32 × MS → Option (MS × Int32)} {pre : List Nat} {q : Nat × List Nat} {l7 : Nat} (h6 : gL M 106 = 4000) (h7 : gL M 107 = 4000) (hw : gL M 100 = 130000) (ht : gL M 101 = 130000) (hl : l7 < 4000) (hq : PLi M l7 q) (hf : pre.length + q.2.length ≤ 130000) :
    ∀ (v u : List Nat) (F : Nat), q.2 = u ++ v → v.length < F → fx (fun (k : Int32 × Int32 × Int32 × MS → Option (MS × Int32)) (i : Int32 × Int32 × Int32 × MS) => m_Mo_unite_310b k298 k i.1 i.2.1 i.2.2.1 i.2.2.2) F (Int32.ofNat pre.length, Int32.ofNat l7, Int32.ofNat u.length, wr M 101 0 (pre ++ u)) = k298 (Int32.ofNat (pre.length + q.2.length), Int32.ofNat (l7 + 1), wr M 101 0 (pre ++ q.2)) := by
  obtain ⟨g1, g2, g3⟩ := hq
  have hg := g3.1
  intro v
  induction v with
  | nil =>
    intro u F e hF
    rw [List.append_nil] at e
    subst e
    cases F with
    | zero => simp at hF
    | succ F =>
      show m_Mo_unite_310b k298 _ (Int32.ofNat pre.length) (Int32.ofNat l7) (Int32.ofNat q.2.length) (wr M 101 0 (pre ++ q.2)) = _
      have e7 : gA (wr M 101 0 (pre ++ q.2)) 107 l7 = Int32.ofNat q.2.length := by rw [gA_wr, if_neg (by omega)]; exact g2
      unfold m_Mo_unite_310b m_Mo_unite_353
      rw [ld_of (by rw [gL_wr]; omega) (by omega), e7]
      simp only [Option.bind_some]
      rw [if_pos (Int32.le_refl _), i_add_of, i_inc]
  | cons x v ih =>
    intro u F e hF
    have hlen : q.2.length = u.length + v.length + 1 := by rw [e, List.length_append, List.length_cons]; omega
    rw [List.length_cons] at hF
    cases F with
    | zero => omega
    | succ F =>
      show m_Mo_unite_310b k298 _ (Int32.ofNat pre.length) (Int32.ofNat l7) (Int32.ofNat u.length) (wr M 101 0 (pre ++ u)) = _
      have e7 : gA (wr M 101 0 (pre ++ u)) 107 l7 = Int32.ofNat q.2.length := by rw [gA_wr, if_neg (by omega)]; exact g2
      have e6 : gA (wr M 101 0 (pre ++ u)) 106 l7 = Int32.ofNat q.1 := by rw [gA_wr, if_neg (by omega)]; exact g1
      have e0 : gA (wr M 101 0 (pre ++ u)) 100 (q.1 + u.length) = Int32.ofNat x := by
        rw [gA_wr, if_neg (by omega)]
        rw [e] at g3
        exact g3.get.1
      unfold m_Mo_unite_310b
      rw [ld_of (by rw [gL_wr]; omega) (by omega), e7]
      simp only [Option.bind_some]
      rw [if_neg (by rw [i_le_of (by omega) (by omega)]; omega), ld_of (by rw [gL_wr]; omega) (by omega), e6]
      simp only [Option.bind_some]
      rw [i_add_of, ld_of (by rw [gL_wr]; omega) (by omega), e0]
      simp only [Option.bind_some]
      rw [i_add_of, st_of (by rw [gL_wr]; omega) (by omega)]
      simp only [Option.bind_some]
      have hs := wr_snoc (M := M) (b := 101) (j := 0) (x := x) (t := pre ++ u)
      rw [Nat.zero_add, List.length_append] at hs
      rw [hs, i_inc, List.append_assoc]
      have := ih (u ++ [x]) F (by rw [e, List.append_assoc]; rfl) (by omega)
      rw [List.length_append] at this
      exact this
theorem r_unite298 {M : MS} {n : Nat} (h6 : gL M 106 = 4000) (h7 : gL M 107 = 4000) (hw : gL M 100 = 130000) (ht : gL M 101 = 130000) (hn : gI M 97 13 = Int32.ofNat n) (hn2 : n ≤ 4000) :
    ∀ (R : List (Nat × List Nat)) (pre : List Nat) (i F : Nat), PL M i R → i + R.length = n → pre.length + (R.map Prod.snd).flatten.length ≤ 130000 → R.length < F →
    fx (fun (k : Int32 × Int32 × MS → Option (MS × Int32)) (i : Int32 × Int32 × MS) => m_Mo_unite_298b k i.1 i.2.1 i.2.2) F (Int32.ofNat pre.length, Int32.ofNat i, wr M 101 0 pre) = some (wr M 101 0 (pre ++ (R.map Prod.snd).flatten), Int32.ofNat (pre ++ (R.map Prod.snd).flatten).length) := by
  intro R
  induction R with
  | nil =>
    intro pre i F hP hi hl hF
    rw [List.length_nil] at hi hF
    cases F with
    | zero => omega
    | succ F =>
      show m_Mo_unite_298b _ (Int32.ofNat pre.length) (Int32.ofNat i) (wr M 101 0 pre) = _
      unfold m_Mo_unite_298b
      rw [if_pos (by rw [gI_wr, hn, i_le_of (by omega) (by omega)]; omega)]
      simp
  | cons q R ih =>
    intro pre i F hP hi hl hF
    rw [List.length_cons] at hi hF
    simp only [List.map_cons, List.flatten_cons, List.length_append] at hl
    cases F with
    | zero => omega
    | succ F =>
      show m_Mo_unite_298b _ (Int32.ofNat pre.length) (Int32.ofNat i) (wr M 101 0 pre) = _
      unfold m_Mo_unite_298b m_Mo_unite_310
      rw [if_neg (by rw [gI_wr, hn, i_le_of (by omega) (by omega)]; omega)]
      have h1 := r_unite310 (k298 := fx (fun (k : Int32 × Int32 × MS → Option (MS × Int32)) (i : Int32 × Int32 × MS) => m_Mo_unite_298b k i.1 i.2.1 i.2.2) F) (pre := pre) h6 h7 hw ht (l7 := i) (by omega) (hP 0 q rfl) (by omega) q.2 [] FU rfl (by have := (hP 0 q rfl).2.2.1; unfold FU; omega)
      rw [List.append_nil] at h1
      have h2 := ih (pre ++ q.2) (i + 1) F (fun j p hp => by
        have := hP (j + 1) p (by rw [List.getElem?_cons_succ]; exact hp)
        rw [show i + (j + 1) = i + 1 + j by omega] at this
        exact this) (by omega) (by rw [List.length_append]; omega) (by omega)
      rw [List.length_append (as := pre)] at h2
      refine (h1.trans h2).trans ?_
      simp only [List.map_cons, List.flatten_cons, List.append_assoc]
theorem At_wr0 {M : MS} {t : List Nat} (ht : gL M 101 = 130000) (h : t.length ≤ 130000) : At (wr M 101 0 t) 101 0 t := At_wr (by omega)
theorem r_unite235 {M : MS} {s fill : Nat} {K : List (Nat × List Nat)} (hs : s = 4 ∨ s = 5) (h6 : gL M 106 = 4000) (h7 : gL M 107 = 4000) (hw : gL M 100 = 130000) (ht : gL M 101 = 130000) (hK : PL M 0 K) (sK : ∀ d ∈ K, sm d.2) (hl : K.length ≤ 4000) (hlen : (K.map Prod.snd).flatten.length + 2 ≤ 130000) :
    ∃ M1, m_Mo_unite_235 (Int32.ofNat s) (if s = 4 then 1 else 0) (Int32.ofNat K.length) M = some (M1, Int32.ofNat (mkS s (srt (K.map Prod.snd))).length) ∧ At M1 101 0 (mkS s (srt (K.map Prod.snd))) ∧ UF fill M M1 := by
  obtain ⟨M1, D1, e1, o1, o2, o3, o4, o5⟩ := r_order h6 h7 (by omega) hK sK hl
  have o3l := o3.ln
  have hsl := srt_len (K.map Prod.snd)
  rw [← o2] at hsl
  unfold m_Mo_unite_235
  rw [e1, cal_some rfl o3.le.1 o3.le.2]
  simp only [Option.bind_some]
  have hg : gI (sI M1 97 13 (Int32.ofNat D1.length)) 97 13 = Int32.ofNat D1.length := by rw [gI_sI, if_pos ⟨rfl, rfl⟩]
  have hfr : Fr [101, 106, 107] [(97, 13)] M (sI M1 97 13 (Int32.ofNat D1.length)) := (o3.mono (by decide) (by decide)).tr (Fr.stI (by decide))
  have hPD : PL (sI M1 97 13 (Int32.ofNat D1.length)) 0 D1 := o1
  rw [hg, ← o2]
  match D1, o2, hg, hPD, hfr, hsl, o4 with
  | [], o2, hg, hPD, hfr, hsl, o4 =>
    rw [if_neg (by simp)]
    have hLn : 2 ≤ gL (sI M1 97 13 (Int32.ofNat ([] : List (Nat × List Nat)).length)) 101 := by show 2 ≤ gL M1 101; rw [o3l]; omega
    rcases hs with rfl | rfl
    · have hr := r_simple (M := sI M1 97 13 (Int32.ofNat ([] : List (Nat × List Nat)).length)) (l1 := Int32.ofNat 4) hLn false
      rw [if_pos (by decide)]
      unfold m_Mo_unite_263
      simp only [Bool.false_eq_true, if_false] at hr
      rw [hr, cal_wr]
      refine ⟨_, rfl, ?_, UF.of (hfr.tr (Fr.wr (by decide)))⟩
      exact (At.app (t := [0]) (r := [0]) (At_wr (t := [0, 0]) (j := 0) (by show 0 + 2 ≤ _; omega))).1
    · have hr := r_simple (M := sI M1 97 13 (Int32.ofNat ([] : List (Nat × List Nat)).length)) (l1 := Int32.ofNat 5) hLn true
      rw [if_neg (by decide)]
      unfold m_Mo_unite_263
      simp only [if_true] at hr
      rw [hr, cal_wr]
      refine ⟨_, rfl, ?_, UF.of (hfr.tr (Fr.wr (by decide)))⟩
      exact At_wr (t := [6, 0]) (j := 0) (by show 0 + 2 ≤ _; omega)
  | [d], o2, hg, hPD, hfr, hsl, o4 =>
    have hd1 : Int32.ofNat [d].length = 1 := rfl
    rw [if_pos (by rw [hd1]; decide), if_pos (by rw [hd1]; decide)]
    have h := r_unite298 (M := sI M1 97 13 (Int32.ofNat [d].length)) (n := 1) (by show gL M1 106 = _; rw [o3l]; exact h6) (by show gL M1 107 = _; rw [o3l]; exact h7) (by show gL M1 100 = _; rw [o3l]; exact hw) (by show gL M1 101 = _; rw [o3l]; exact ht) hg (by omega) [d] [] 0 FU hPD rfl (by simp only [List.length_nil]; omega) (by unfold FU; simp)
    rw [wr_nil] at h
    simp only [List.map_cons, List.map_nil, List.flatten_cons, List.flatten_nil, List.append_nil, List.nil_append] at h hsl ⊢
    refine ⟨_, h, ?_, UF.of (hfr.tr (Fr.wr (by decide)))⟩
    exact At_wr (by show 0 + _ ≤ gL M1 101; rw [o3l]; show 0 + d.2.length ≤ _; omega)
  | d :: d' :: r, o2, hg, hPD, hfr, hsl, o4 =>
    have hm : (d :: d' :: r).length = r.length + 2 := rfl
    have hs8 : s < 8 := by omega
    rw [if_pos (by rw [hm, i_eq, i_of (by omega), i_0]; omega), if_neg (by rw [hm, i_le, i_of (by omega), i_1]; omega)]
    rw [i_shl3, i_or_of, or_8 hs8, show (0 : Int32) = Int32.ofNat 0 from rfl, st_of (by show 0 < gL M1 101; rw [o3l]; omega) (by omega)]
    simp only [Option.bind_some]
    have e0 := wr_snoc (M := sI M1 97 13 (Int32.ofNat (d :: d' :: r).length)) (b := 101) (j := 0) (x := s + 8 * (d :: d' :: r).length) (t := [])
    rw [wr_nil] at e0
    have e0' : sA (sI M1 97 13 (Int32.ofNat (d :: d' :: r).length)) 101 0 (Int32.ofNat (s + 8 * (d :: d' :: r).length)) = wr (sI M1 97 13 (Int32.ofNat (d :: d' :: r).length)) 101 0 [s + 8 * (d :: d' :: r).length] := e0
    rw [e0']
    have h := r_unite298 (M := sI M1 97 13 (Int32.ofNat (d :: d' :: r).length)) (n := (d :: d' :: r).length) (by show gL M1 106 = _; rw [o3l]; exact h6) (by show gL M1 107 = _; rw [o3l]; exact h7) (by show gL M1 100 = _; rw [o3l]; exact hw) (by show gL M1 101 = _; rw [o3l]; exact ht) hg (by omega) (d :: d' :: r) [s + 8 * (d :: d' :: r).length] 0 FU hPD (Nat.zero_add _) (by show 1 + _ ≤ _; omega) (by unfold FU; omega)
    have e9 : mkS s (List.map Prod.snd (d :: d' :: r)) = [s + 8 * (d :: d' :: r).length] ++ (List.map Prod.snd (d :: d' :: r)).flatten := by
      show (s + 8 * (d.2 :: d'.2 :: r.map Prod.snd).length) :: _ = _
      simp
    rw [e9]
    refine ⟨_, h, ?_, UF.of (hfr.tr (Fr.wr (by decide)))⟩
    exact At_wr (by show 0 + _ ≤ gL M1 101; rw [o3l, List.length_append, List.length_singleton]; omega)
