/-! STEP 2: the reference's part -/
def psh (M : MS) (p pos len : Nat) : MS := sI (sA (sA M 106 p (Int32.ofNat pos)) 107 p (Int32.ofNat len)) 97 13 (Int32.ofNat (p + 1))
def pos (i : Nat) (ps : List (List Nat)) : List (Nat × List Nat) := match ps with
  | [] => []
  | p :: r => (i, p) :: pos (i + p.length) r
def pshs (M : MS) (p : Nat) (Q : List (Nat × List Nat)) : MS := match Q with
  | [] => M
  | q :: r => pshs (psh M p q.1 q.2.length) (p + 1) r
theorem gL_psh {M : MS} {p a b : Nat} : gL (psh M p a b) = gL M := rfl
theorem gI_psh {M : MS} {p a b : Nat} : gI (psh M p a b) 97 13 = Int32.ofNat (p + 1) := by
  unfold psh
  rw [gI_sI, if_pos ⟨rfl, rfl⟩]
theorem At_psh {M : MS} {p a b n i : Nat} {t : List Nat} (h1 : n ≠ 106) (h2 : n ≠ 107) (h : At M n i t) : At (psh M p a b) n i t := by
  have h3 := (h.sA_ne (j := p) (x := Int32.ofNat a) h1).sA_ne (j := p) (x := Int32.ofNat b) h2
  exact h3
theorem r_part76 {M : MS} {k : Int32 × Int32 × Int32 × Int32 × MS → Option (MS × Unit)} {l1 l2 l5 : Int32} {p l4 len : Nat} (hp : gI M 97 13 = Int32.ofNat p) (hL7 : gL M 107 = 4000) (hp2 : p < 4000) :
    m_Mo_part_76 k l1 l2 (Int32.ofNat l4) l5 (gI (sA M 106 p (Int32.ofNat l4)) 97 13) (Int32.ofNat len) (sA M 106 p (Int32.ofNat l4)) = k (l1, l2, Int32.ofNat (l4 + len), l5, psh M p l4 len) := by
  unfold m_Mo_part_76
  have e1 : gI (sA M 106 p (Int32.ofNat l4)) 97 13 = Int32.ofNat p := hp
  rw [e1, st_of (by show p < gL M 107; omega) (by omega)]
  simp only [Option.bind_some]
  have e2 : gI (sA (sA M 106 p (Int32.ofNat l4)) 107 p (Int32.ofNat len)) 97 13 = Int32.ofNat p := hp
  rw [e2, ld_of (by show p < gL M 107; omega) (by omega)]
  simp only [Option.bind_some]
  rw [gA_sA, if_pos ⟨rfl, rfl⟩, i_add_of, show Int32.ofNat p + 1 = Int32.ofNat (p + 1) from i_add_of p 1]
  rfl
theorem r_part31 {at0 many : Nat} (hb : at0 + many < 1073741824) : ∀ (ps : List (List Nat)) (M : MS) (p k F : Nat), gI M 97 13 = Int32.ofNat p → gL M 106 = 4000 → gL M 107 = 4000 → p + ps.length ≤ 4000 → (∀ q ∈ ps, wf q) → sm ps.flatten → At M 100 k ps.flatten → k + ps.flatten.length = at0 + many → ps.length < F →
    fx (fun (k : Int32 × Int32 × Int32 × Int32 × MS → Option (MS × Unit)) (i : Int32 × Int32 × Int32 × Int32 × MS) => m_Mo_part_31b k i.1 i.2.1 i.2.2.1 i.2.2.2.1 i.2.2.2.2) F (Int32.ofNat at0, Int32.ofNat many, Int32.ofNat k, 1, M) = some (pshs M p (pos k ps), ()) := by
  intro ps
  induction ps with
  | nil =>
    intro M p k F h1 h2 h3 h4 h5 h6 h7 h8 h9
    rw [List.flatten_nil, List.length_nil] at h8
    cases F with
    | zero => simp at h9
    | succ F =>
      show m_Mo_part_31b _ (Int32.ofNat at0) (Int32.ofNat many) (Int32.ofNat k) 1 M = _
      unfold m_Mo_part_31b
      rw [i_add_of, if_pos (by rw [i_le_of (by omega) (by omega)]; omega)]
      rfl
  | cons q ps ih =>
    intro M p k F h1 h2 h3 h4 h5 h6 h7 h8 h9
    rw [List.length_cons] at h4 h9
    rw [List.flatten_cons] at h6 h7 h8
    rw [List.length_append] at h8
    have hq : 1 ≤ q.length := List.length_pos_iff.mpr (wf_ne (h5 q List.mem_cons_self))
    cases F with
    | zero => omega
    | succ F =>
      show m_Mo_part_31b _ (Int32.ofNat at0) (Int32.ofNat many) (Int32.ofNat k) 1 M = _
      unfold m_Mo_part_31b
      rw [i_add_of, if_neg (by rw [i_le_of (by omega) (by omega)]; omega), h1, st_of (by omega) (by omega)]
      simp only [Option.bind_some]
      rw [if_neg (by decide)]
      have hA : At (sA M 106 p (Int32.ofNat k)) 100 k (q ++ ps.flatten) := h7.sA_ne (by decide)
      rw [r_length (by decide) (h5 q List.mem_cons_self) hA (fun y hy => h6 y (List.mem_append_left _ hy)) (by omega), cal_same]
      rw [r_part76 h1 h3 (by omega)]
      have hih := ih (psh M p k q.length) (p + 1) (k + q.length) F gI_psh h2 h3 (by omega) (fun y hy => h5 y (List.mem_cons_of_mem _ hy)) (fun y hy => h6 y (List.mem_append_right _ hy)) (At_psh (by decide) (by decide) h7.app.2) (by omega) (by omega)
      exact hih
def ptA (s at0 : Nat) (t : List Nat) : List (Nat × List Nat) := if hd t % 8 = s then pos (at0 + 1) (pts t) else [(at0, t)]
theorem pos_snd (i : Nat) (ps : List (List Nat)) : (pos i ps).map Prod.snd = ps := by
  induction ps generalizing i with
  | nil => rfl
  | cons p r ih => show p :: (pos (i + p.length) r).map Prod.snd = _; rw [ih]
theorem ptA_snd (s at0 : Nat) (t : List Nat) : (ptA s at0 t).map Prod.snd = pt s t := by
  unfold ptA pt
  split
  · exact pos_snd _ _
  · rfl
/-- part: what OR or AND takes of a term, put behind the parts that are there -/
theorem r_part {M : MS} {at0 p s : Nat} {t : List Nat} (hs : s < 8) (wt : wf t) (st : sm t) (hA : At M 100 at0 t) (h1 : gI M 97 13 = Int32.ofNat p) (h2 : gL M 106 = 4000) (h3 : gL M 107 = 4000) (h4 : p + (pt s t).length ≤ 4000) (hb : at0 + t.length < 1073741824) :
    m_Mo_part (Int32.ofNat at0) (Int32.ofNat t.length) (Int32.ofNat s) M = some (pshs M p (ptA s at0 t), ()) := by
  obtain ⟨e1, e2, e3⟩ := pts_spec wt
  have hA2 : At M 100 at0 (hd t :: (pts t).flatten) := by rw [← e1]; exact hA
  obtain ⟨q1, q2, q3⟩ := hA2.cons
  have hm : hd t % 8 < 8 := Nat.mod_lt _ (by omega)
  have hlen : t.length = (pts t).flatten.length + 1 := by
    have := congrArg List.length e1
    rw [List.length_cons] at this
    exact this
  unfold m_Mo_part m_Mo_sort
  rw [ld_of q2 (by omega), q1]
  simp only [Option.bind_some]
  rw [cal_same]
  simp only [it_and]
  by_cases h : hd t % 8 = s
  · rw [if_neg (by rw [h]; simp)]
    have e4 : pt s t = pts t := if_pos h
    have e5 : ptA s at0 t = pos (at0 + 1) (pts t) := if_pos h
    rw [e4] at h4
    rw [e5]
    unfold m_Mo_part_21 m_Mo_part_31
    rw [if_neg (by decide), show Int32.ofNat at0 + 1 = Int32.ofNat (at0 + 1) from i_add_of at0 1]
    have hfl : (pts t).length < FU := by unfold FU; omega
    exact r_part31 hb (pts t) M p (at0 + 1) FU h1 h2 h3 h4 e3 (fun y hy => st y (by rw [e1]; exact List.mem_cons_of_mem _ hy)) q3 (by omega) hfl
  · rw [if_pos (by rw [i_eq_of (by omega) (by omega)]; exact h)]
    have e4 : pt s t = [t] := if_neg h
    have e5 : ptA s at0 t = [(at0, t)] := if_neg h
    rw [e4, List.length_singleton] at h4
    rw [e5]
    unfold m_Mo_part_21
    rw [if_pos rfl]
    show m_Mo_part_31b _ (Int32.ofNat at0) (Int32.ofNat t.length) (Int32.ofNat at0) 0 M = _
    unfold m_Mo_part_31b
    rw [i_add_of, if_neg (by rw [i_le_of (by omega) (by omega)]; omega), h1, st_of (by omega) (by omega)]
    simp only [Option.bind_some]
    rw [if_pos trivial, r_part76 h1 h3 (by omega)]
    show m_Mo_part_31b _ (Int32.ofNat at0) (Int32.ofNat t.length) (Int32.ofNat (at0 + t.length)) 0 (psh M p at0 t.length) = _
    unfold m_Mo_part_31b
    rw [i_add_of, if_pos (by rw [i_le_of (by omega) (by omega)]; omega)]
    rfl
