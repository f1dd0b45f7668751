/-! STEP 2, the class: tidy, whole -/
/-- a term and all that it is made of -/
def tsb (g : TG) : Nat → Nat → List Nat
  | 0, i => [i]
  | n + 1, i => i :: (tkd g i).flatMap (tsb g n)
theorem tsb_self (g : TG) (n i : Nat) : i ∈ tsb g n i := by
  cases n with
  | zero => exact List.mem_singleton.mpr rfl
  | succ n => exact List.mem_cons_self
theorem tsb_closed {g : TG} (h : TB g) : ∀ n i, i ≤ n → i < tU g → ∀ x ∈ tsb g n i, ∀ k ∈ tkd g x, k ∈ tsb g n i := by
  intro n
  induction n with
  | zero =>
    intro i hi hiU x hx k hk
    have hx : x = i := List.mem_singleton.mp hx
    have hi : i = 0 := by omega
    subst hx
    have := h.kids hiU k hk
    omega
  | succ n ih =>
    intro i hi hiU x hx k hk
    rcases List.mem_cons.mp hx with rfl | hx
    · exact List.mem_cons_of_mem _ (List.mem_flatMap.mpr ⟨k, hk, tsb_self g n k⟩)
    · obtain ⟨y, hy, hx⟩ := List.mem_flatMap.mp hx
      have := h.kids hiU y hy
      exact List.mem_cons_of_mem _ (List.mem_flatMap.mpr ⟨y, hy, ih y (by omega) (by omega) x hx k hk⟩)
theorem sum_le_map {f f' : Nat → Nat} : ∀ (l : List Nat), (∀ x ∈ l, f x ≤ f' x) → (l.map f).sum ≤ (l.map f').sum := by
  intro l
  induction l with
  | nil => intro _; exact Nat.le_refl _
  | cons x l ih =>
    intro h
    rw [List.map_cons, List.map_cons, List.sum_cons, List.sum_cons]
    have := h x List.mem_cons_self
    have := ih (fun y hy => h y (List.mem_cons_of_mem _ hy))
    omega
theorem flatMap_sum {f : Nat → List Nat} {w : Nat → Nat} : ∀ (l : List Nat), ((l.flatMap f).map w).sum = (l.map (fun x => ((f x).map w).sum)).sum := by
  intro l
  induction l with
  | nil => rfl
  | cons x l ih => rw [List.flatMap_cons, List.map_append, List.sum_append, ih, List.map_cons, List.sum_cons]
theorem sum_one (l : List Nat) : (l.map (fun _ => 1)).sum = l.length := by
  induction l with
  | nil => rfl
  | cons x l ih => rw [List.map_cons, List.sum_cons, ih, List.length_cons]; omega
theorem tsb_len {g : TG} (h : TB g) : ∀ n i, i < tU g → ((tsb g n i).map (fun _ => 1)).sum ≤ (ttx g i).length := by
  intro n
  induction n with
  | zero =>
    intro i hi
    exact List.length_pos_iff.mpr (wf_ne (h.wf hi))
  | succ n ih =>
    intro i hi
    have h1 := kid_sum h hi
    have h2 := sum_le_map (f := fun k => ((tsb g n k).map (fun _ => 1)).sum) (f' := fun k => (ttx g k).length) (tkd g i) (fun k hk => ih k (Nat.lt_trans (h.kids hi k hk) hi))
    have e : ((tsb g (n + 1) i).map (fun _ => 1)).sum = 1 + ((tkd g i).map (fun k => ((tsb g n k).map (fun _ => 1)).sum)).sum := by
      show ((i :: (tkd g i).flatMap (tsb g n)).map (fun _ => 1)).sum = _
      rw [List.map_cons, List.sum_cons, flatMap_sum]
    rw [e]
    omega
theorem tsb_sum {g : TG} (h : TB g) : ∀ n i, i < tU g → ((tsb g n i).map (fun x => (tkd g x).length)).sum + 1 ≤ (ttx g i).length := by
  have hk1 : ∀ i, i < tU g → (tkd g i).length ≤ ((tkd g i).map (fun k => (ttx g k).length)).sum := fun i hi => by
    have := sum_le_map (f := fun _ => 1) (f' := fun k => (ttx g k).length) (tkd g i) (fun k hk => List.length_pos_iff.mpr (wf_ne (h.wf (Nat.lt_trans (h.kids hi k hk) hi))))
    rw [sum_one] at this
    exact this
  intro n
  induction n with
  | zero =>
    intro i hi
    have := kid_sum h hi
    have := hk1 i hi
    have e : ((tsb g 0 i).map (fun x => (tkd g x).length)).sum = (tkd g i).length := by
      show (([i] : List Nat).map (fun x => (tkd g x).length)).sum = _
      simp
    rw [e]
    omega
  | succ n ih =>
    intro i hi
    have h1 := kid_sum h hi
    have h2 := sum_le_map (f := fun k => ((tsb g n k).map (fun x => (tkd g x).length)).sum + 1) (f' := fun k => (ttx g k).length) (tkd g i) (fun k hk => ih k (Nat.lt_trans (h.kids hi k hk) hi))
    have e : ((tsb g (n + 1) i).map (fun x => (tkd g x).length)).sum = (tkd g i).length + ((tkd g i).map (fun k => ((tsb g n k).map (fun x => (tkd g x).length)).sum)).sum := by
      show ((i :: (tkd g i).flatMap (tsb g n)).map (fun x => (tkd g x).length)).sum = _
      rw [List.map_cons, List.sum_cons, flatMap_sum]
    have e2 : ∀ l : List Nat, (l.map (fun k => ((tsb g n k).map (fun x => (tkd g x).length)).sum + 1)).sum = l.length + (l.map (fun k => ((tsb g n k).map (fun x => (tkd g x).length)).sum)).sum := by
      intro l
      induction l with
      | nil => rfl
      | cons y l ih2 => rw [List.map_cons, List.sum_cons, ih2, List.map_cons, List.sum_cons, List.length_cons]; omega
    rw [e2] at h2
    rw [e]
    omega
theorem nd_sum {f : Nat → Nat} : ∀ (a b : List Nat), a.Nodup → (∀ x ∈ a, x ∈ b) → (a.map f).sum ≤ (b.map f).sum := by
  intro a
  induction a with
  | nil => intro b _ _; exact Nat.zero_le _
  | cons x a ih =>
    intro b hn hs
    obtain ⟨h1, h2⟩ := List.nodup_cons.mp hn
    have hp := (List.perm_cons_erase (hs x List.mem_cons_self)).map f
    rw [sum_perm hp, List.map_cons, List.map_cons, List.sum_cons, List.sum_cons]
    have := ih (b.erase x) h2 (fun y hy => (List.mem_erase_of_ne (fun e => h1 (by rw [← e]; exact hy))).mpr (hs y (List.mem_cons_of_mem _ hy)))
    omega
/-- the rows of ids: the slots, and the first of the states found -/
def TRw (g : TG) (M : MS) (sl fd : Nat → Nat) (n : Nat) : Prop := gL M 1 = 16 ∧ gL M 26 = 150 ∧ n ≤ 150 ∧ (∀ s, s < 16 → gA M 1 s = Int32.ofNat (sl s) ∧ sl s < tU g ∧ (ttx g (sl s)).length ≤ 100) ∧ (∀ j, j < n → gA M 26 j = Int32.ofNat (fd j) ∧ fd j < tU g ∧ (ttx g (fd j)).length ≤ 300)
def TLm (M : MS) : Prop := ∃ u k, gI M 2 18 = Int32.ofNat u ∧ gI M 2 19 = Int32.ofNat k ∧ u ≤ 93236 ∧ k ≤ 93236
def RTd : List Nat := 1 :: 26 :: 11 :: RV
def FTd : List (Nat × Nat) := [(2, 16), (2, 17), (2, 18), (2, 19)]
def TDR (g : TG) (M : MS) (sl fd : Nat → Nat) (n : Nat) (x : Option (MS × Unit)) : Prop := ∃ (M1 : MS) (g1 : TG) (ρ : Nat → Nat), x = some (M1, ()) ∧ TI g1 M1 ∧ TRw g1 M1 (fun s => ρ (sl s)) (fun j => ρ (fd j)) n ∧ TLm M1 ∧ tU g1 ≤ 93236 ∧ tKU g1 ≤ 93236 ∧ (∀ s, s < 16 → ttx g1 (ρ (sl s)) = ttx g (sl s)) ∧ (∀ j, j < n → ttx g1 (ρ (fd j)) = ttx g (fd j) ∧ ttg g1 (ρ (fd j)) = ttg g (fd j)) ∧ Fr RTd FTd M M1
theorem c_tidy23 {g : TG} {M : MS} {sl fd : Nat → Nat} {n : Nat} (h : TI g M) (hT : TRw g M sl fd n) : TDR g M sl fd n (m_Terms_tidy_23 (Int32.ofNat n) M) := by
  obtain ⟨t1, t2, t3, t4, t5⟩ := hT
  have hB := h.1
  have hlt := h.2.1.lt
  obtain ⟨⟨m1, m2⟩, ⟨m3, m4⟩, ⟨l4, l5, l6, l7, l8, l9, l10, l11, l12, l14⟩, ⟨k1, k2, k3⟩, mi⟩ := h.2.1
  have hrm := rooms_le m4
  obtain ⟨M1, a1, a2, a3⟩ := c_fill (M := M) (a := 11) (v := -1) (by decide) (by omega)
  have ln1 := a2.ln
  obtain ⟨M2, b1, b2, b3, b4, b5⟩ := c_markRow (M := M1) (a := 1) (n := 16) (l := sl) (by decide) (by decide) (by rw [ln1]; omega) (by omega) (by rw [ln1]; omega) (fun j hj => by
    rw [a2.ga (by decide), ln1]
    obtain ⟨q1, q2, -⟩ := t4 j hj
    exact ⟨q1, by omega⟩)
  have ln2 := b2.ln.trans ln1
  have f02 : Fr [11] [] M M2 := a2.tr b2
  obtain ⟨M3, c1, c2, c3, c4, c5⟩ := c_markRow (M := M2) (a := 26) (n := n) (l := fd) (by decide) (by decide) (by rw [ln2]; omega) (by omega) (by rw [ln2]; omega) (fun j hj => by
    rw [f02.ga (by decide), ln2]
    obtain ⟨q1, q2, -⟩ := t5 j hj
    exact ⟨q1, by omega⟩)
  have f03 : Fr [11] [] M M3 := f02.tr c2
  obtain ⟨M4, d1, d2, d3, d4, d5⟩ := c_markKids (h.f11 f03)
  have f04 : Fr [11] [] M M4 := f03.tr d2
  obtain ⟨M5, e1, e2, e3⟩ := c_numberMarked (h.f11 f04)
  have f05 : Fr [11] [] M M5 := f04.tr e2
  have hKsl : ∀ s, s < 16 → kpt M4 (sl s) = true := fun s hs => by
    by_cases h18 : sl s < 18
    · exact kpt_18 h18
    · exact (kpt_iff (by omega)).mpr (d3 _ (c3 _ (b4 s hs)))
  have hKfd : ∀ j, j < n → kpt M4 (fd j) = true := fun s hs => by
    by_cases h18 : fd s < 18
    · exact kpt_18 h18
    · exact (kpt_iff (by omega)).mpr (d3 _ (c4 s hs))
  have hC : TC g (kpt M4) M5 := ⟨h.f11 f05, e3, fun i hi => kpt_18 hi, fun i h1 h2 h3 k hk => by
    by_cases hk18 : k < 18
    · exact kpt_18 hk18
    · exact (kpt_iff (by omega)).mpr (d4 i h1 h2 ((kpt_iff h1).mp h3) k hk), rk_18⟩
  obtain ⟨M6, g', x1, hV⟩ := c_moveMarked hC
  obtain ⟨⟨hB', hU', -, -, hsum⟩, ⟨y1, y2⟩, ⟨hM', hH', hT', hA'⟩, ⟨f56, -, -, -⟩⟩ := hV
  have hI' : TI g' M6 := ⟨hB', hM', hH', fun i c hi hc4 => by
    rcases hA' i c hi hc4 with q | ⟨d, q1, q2, q3, q4⟩
    · exact Or.inl q
    · exact Or.inr ⟨rk (kpt M4) d, by rw [hU']; exact rk_lt q1 q2, q3, by rw [(y1 d q1 q2).2.1]; exact q4⟩, hT'⟩
  have f06 : Fr RTd FTd M M6 := (f05.mono (by decide) (by decide)).tr (f56.mono (by decide) (by decide))
  have ln6 := f06.ln
  have k11 : ∀ p, p < tU g → kpt M4 p = true → gA M6 11 p = Int32.ofNat (rk (kpt M4) p) := fun p hp hk => by
    rw [f56.ga (by decide), e3 p hp, if_pos hk]
  obtain ⟨M7, u1, u2, u3⟩ := c_renumber (M := M6) (a := 1) (n := 16) (l := sl) (r := fun s => rk (kpt M4) (sl s)) (by decide) (by decide) (by rw [ln6]; omega) (by omega) (by rw [ln6]; omega) (fun j hj => by
    obtain ⟨q1, q2, -⟩ := t4 j hj
    rw [f56.ga (by decide), f05.ga (by decide), ln6]
    exact ⟨q1, by omega, k11 _ q2 (hKsl j hj)⟩)
  have ln7 := u2.ln.trans ln6
  obtain ⟨M8, w1, w2, w3⟩ := c_renumber (M := M7) (a := 26) (n := n) (l := fd) (r := fun s => rk (kpt M4) (fd s)) (by decide) (by decide) (by rw [ln7]; omega) (by omega) (by rw [ln7]; omega) (fun j hj => by
    obtain ⟨q1, q2, -⟩ := t5 j hj
    rw [u2.ga (by decide), f56.ga (by decide), f05.ga (by decide), u2.ga (by decide), ln7]
    exact ⟨q1, by omega, k11 _ q2 (hKfd j hj)⟩)
  have f68 : Fr [1, 26] [] M6 M8 := (u2.mono (by decide) (by decide)).tr (w2.mono (by decide) (by decide))
  -- how many are kept
  have hcount : ∀ w : Nat → Nat, (∀ i, i < tU g → ((tsb g (tU g) i).map w).sum ≤ (ttx g i).length) → ((kl (kpt M4) (tU g)).map w).sum ≤ 46600 := by
    intro w hw
    have hP := d5 (fun x => x ∈ (((List.range 16).map sl) ++ ((List.range n).map fd)).flatMap (tsb g (tU g)) ∨ gL M 11 ≤ x) (fun i hi hx k hk => by
      obtain ⟨r, r1, r2⟩ := List.mem_flatMap.mp (hx.resolve_right (by omega))
      refine Or.inl <| List.mem_flatMap.mpr ⟨r, r1, tsb_closed hB (tU g) r ?_ ?_ i r2 k hk⟩
      · rcases List.mem_append.mp r1 with q | q
        · obtain ⟨s, s1, rfl⟩ := List.mem_map.mp q
          have := (t4 s (List.mem_range.mp s1)).2.1
          omega
        · obtain ⟨s, s1, rfl⟩ := List.mem_map.mp q
          have := (t5 s (List.mem_range.mp s1)).2.1
          omega
      · rcases List.mem_append.mp r1 with q | q
        · obtain ⟨s, s1, rfl⟩ := List.mem_map.mp q
          exact (t4 s (List.mem_range.mp s1)).2.1
        · obtain ⟨s, s1, rfl⟩ := List.mem_map.mp q
          exact (t5 s (List.mem_range.mp s1)).2.1) (fun p hp => by
      rcases c5 p hp with q | ⟨j, j1, j2⟩
      · rcases b5 p q with q | ⟨j, j1, j2⟩
        · rw [a3] at q
          split at q
          · exact absurd rfl q
          · exact Or.inr (by omega)
        · exact Or.inl <| List.mem_flatMap.mpr ⟨p, List.mem_append_left _ (List.mem_map.mpr ⟨j, List.mem_range.mpr j1, j2.symm⟩), tsb_self _ _ _⟩
      · exact Or.inl <| List.mem_flatMap.mpr ⟨p, List.mem_append_right _ (List.mem_map.mpr ⟨j, List.mem_range.mpr j1, j2.symm⟩), tsb_self _ _ _⟩)
    have h1 := nd_sum (f := w) _ _ (kl_nd (kpt M4) (tU g)) (fun x hx => by
      obtain ⟨q1, q2, q3⟩ := mem_kl.mp hx
      exact (hP x ((kpt_iff q2).mp q3)).resolve_right (by omega))
    rw [flatMap_sum, List.map_append, List.sum_append, List.map_map, List.map_map] at h1
    have h2 := sum_le_map (f := (fun x => ((tsb g (tU g) x).map w).sum) ∘ sl) (f' := fun _ => 100) (List.range 16) (fun s hs => by
      obtain ⟨-, q1, q2⟩ := t4 s (List.mem_range.mp hs)
      exact Nat.le_trans (hw _ q1) q2)
    have h3 := sum_le_map (f := (fun x => ((tsb g (tU g) x).map w).sum) ∘ fd) (f' := fun _ => 300) (List.range n) (fun s hs => by
      obtain ⟨-, q1, q2⟩ := t5 s (List.mem_range.mp hs)
      exact Nat.le_trans (hw _ q1) q2)
    have e2 : ∀ (l : List Nat) (c : Nat), (l.map (fun _ => c)).sum = l.length * c := by
      intro l c
      induction l with
      | nil => simp
      | cons y l ih => rw [List.map_cons, List.sum_cons, ih, List.length_cons, Nat.add_mul]; omega
    rw [e2, List.length_range] at h2 h3
    have : n * 300 ≤ 150 * 300 := Nat.mul_le_mul_right _ t3
    omega
  have hUb : tU g' ≤ 46618 := by
    have h1 := hcount (fun _ => 1) (tsb_len hB (tU g))
    rw [sum_one] at h1
    have h2 := rk_kl (K := kpt M4) (rk_18 18 (Nat.le_refl _)) (tU g - 18)
    have := hB.1
    rw [show 18 + (tU g - 18) = tU g by omega] at h2
    omega
  have hKb : tKU g' ≤ 46601 := by
    have h1 := hcount (fun x => (tkd g x).length) (fun i hi => by have := tsb_sum hB (tU g) i hi; omega)
    rw [hsum]
    omega
  have g16 : gI M8 2 16 = Int32.ofNat (tU g') := by rw [f68.gi (by simp)]; exact hM'.1.1
  have g17 : gI M8 2 17 = Int32.ofNat (tKU g') := by rw [f68.gi (by simp)]; exact hM'.1.2
  have i768 : (if (768:Int32) < Int32.ofNat (tU g') * 2 then Int32.ofNat (tU g') * 2 else (768:Int32)) = Int32.ofNat (max 768 (tU g' * 2)) := by
    rw [i_x2, show (768 : Int32) = Int32.ofNat 768 from rfl]
    by_cases q : 768 < tU g' * 2
    · rw [if_pos (by rw [i_lt_of (by omega) (by omega)]; exact q)]; congr 1; omega
    · rw [if_neg (by rw [i_lt_of (by omega) (by omega)]; exact q)]; congr 1; omega
  have i1536 : (if (1536:Int32) < Int32.ofNat (tKU g') * 2 then Int32.ofNat (tKU g') * 2 else (1536:Int32)) = Int32.ofNat (max 1536 (tKU g' * 2)) := by
    rw [i_x2, show (1536 : Int32) = Int32.ofNat 1536 from rfl]
    by_cases q : 1536 < tKU g' * 2
    · rw [if_pos (by rw [i_lt_of (by omega) (by omega)]; exact q)]; congr 1; omega
    · rw [if_neg (by rw [i_lt_of (by omega) (by omega)]; exact q)]; congr 1; omega
  have fend : Fr [1, 26] [(2, 18), (2, 19)] M6 (sI (sI M8 2 18 (Int32.ofNat (max 768 (tU g' * 2)))) 2 19 (Int32.ofNat (max 1536 (tKU g' * 2)))) := ((f68.mono (by decide) (by decide)).tr (Fr.stI (by decide))).tr (Fr.stI (by decide))
  have hfin : Fr RTd FTd M (sI (sI M8 2 18 (Int32.ofNat (max 768 (tU g' * 2)))) 2 19 (Int32.ofNat (max 1536 (tKU g' * 2)))) := f06.tr (fend.mono (by decide) (by decide))
  refine ⟨sI (sI M8 2 18 (Int32.ofNat (max 768 (tU g' * 2)))) 2 19 (Int32.ofNat (max 1536 (tKU g' * 2))), g', rk (kpt M4), ?_, ?_, ⟨?_, ?_, t3, fun s hs => ?_, fun j hj => ?_⟩, ⟨max 768 (tU g' * 2), max 1536 (tKU g' * 2), ?_, ?_, by omega, by omega⟩, by omega, by omega, fun s hs => ?_, fun j hj => ?_, hfin⟩
  · unfold m_Terms_tidy_23
    rw [cal_some a1 a2.le.1 a2.le.2, show gL M1 1 = 16 by rw [ln1]; exact t1, cal_some b1 b2.le.1 b2.le.2, cal_some c1 c2.le.1 c2.le.2, cal_some d1 d2.le.1 d2.le.2, cal_some e1 e2.le.1 e2.le.2, cal_some x1 f56.le.1 f56.le.2, show gL M6 1 = 16 by rw [ln6]; exact t1, cal_some u1 u2.le.1 u2.le.2, cal_some w1 w2.le.1 w2.le.2, Option.bind_some, Option.bind_some]
    show some (sI (sI M8 2 18 (if (768:Int32) < gI M8 2 16 * 2 then gI M8 2 16 * 2 else (768:Int32))) 2 19 (if (1536:Int32) < gI M8 2 17 * 2 then gI M8 2 17 * 2 else (1536:Int32)), ()) = _
    rw [g16, g17, i768, i1536]
  · refine hI'.fc (FC.of fend) (fun a h1 h2 => Or.inl ?_) ⟨by rw [fend.ln], by rw [fend.ln]⟩ (by decide) (by decide)
    intro q
    simp only [List.mem_cons, List.not_mem_nil, or_false] at q
    omega
  · rw [hfin.ln]; exact t1
  · rw [hfin.ln]; exact t2
  · obtain ⟨-, q2, q3⟩ := t4 s hs
    refine ⟨?_, by rw [hU']; exact rk_lt q2 (hKsl s hs), by rw [(y1 _ q2 (hKsl s hs)).2.1]; exact q3⟩
    show gA M8 1 s = _
    rw [w2.ga (by decide), u3, if_pos hs]
  · obtain ⟨-, q2, q3⟩ := t5 j hj
    refine ⟨?_, by rw [hU']; exact rk_lt q2 (hKfd j hj), by rw [(y1 _ q2 (hKfd j hj)).2.1]; exact q3⟩
    show gA M8 26 j = _
    rw [w3, if_pos hj]
  · rw [gI_sI, if_neg (by omega), gI_sI, if_pos ⟨rfl, rfl⟩]
  · rw [gI_sI, if_pos ⟨rfl, rfl⟩]
  · exact (y1 _ (t4 s hs).2.1 (hKsl s hs)).2.1
  · exact (y1 _ (t5 j hj).2.1 (hKfd j hj)).2
/-- tidy: the same texts stand in slots and states found; there is room -/
theorem c_tidy {g : TG} {M : MS} {sl fd : Nat → Nat} {n : Nat} (h : TI g M) (hT : TRw g M sl fd n) (hL : TLm M) : TDR g M sl fd n (m_Terms_tidy (Int32.ofNat n) M) := by
  obtain ⟨u, k, h1, h2, h3, h4⟩ := id hL
  obtain ⟨m1, m2⟩ := h.2.1.1
  have hlt := h.2.1.lt
  unfold m_Terms_tidy
  rw [h1, h2, m1, m2]
  by_cases c1 : u < tU g
  · rw [if_pos (by rw [i_lt_of (by omega) (by omega)]; exact c1)]
    exact c_tidy23 h hT
  · rw [if_neg (by rw [i_lt_of (by omega) (by omega)]; exact c1)]
    by_cases c2 : k < tKU g
    · rw [if_pos (by rw [i_lt_of (by omega) (by omega)]; exact c2)]
      exact c_tidy23 h hT
    · rw [if_neg (by rw [i_lt_of (by omega) (by omega)]; exact c2)]
      exact ⟨M, g, id, rfl, h, hT, hL, by omega, by omega, fun _ _ => rfl, fun _ _ => ⟨rfl, rfl⟩, Fr.rf⟩
