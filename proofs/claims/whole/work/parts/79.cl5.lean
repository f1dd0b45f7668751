/-! STEP 2, the class: the table's rows; looking a term up -/
def hcF (a : Int32) (own : List Nat) : Int32 := own.foldl (fun a k => (a + Int32.ofNat k) * (-1640531535)) a
def hc (s : Nat) (own : List Nat) : Int32 := hcF (Int32.ofNat s) own
def bk (c : Int32) : Nat := c.toUInt32.toNat / 4194304
theorem bk_lt (c : Int32) : bk c < 1024 := by
  have := UInt32.toNat_lt c.toUInt32
  unfold bk
  omega
theorem bk_of (c : Int32) : xushr c 22 = Int32.ofNat (bk c) := by
  have h1 := bk_lt c
  apply Int32.toBitVec_inj.mp
  apply BitVec.eq_of_toNat_eq
  show (c.toUInt32 >>> ((22 : Int32).toUInt32 &&& Int32.toUInt32 31)).toNat = (BitVec.ofNat 32 (bk c)).toNat
  rw [UInt32.toNat_shiftRight, BitVec.toNat_ofNat, Nat.shiftRight_eq_div_pow, show ((22 : Int32).toUInt32 &&& Int32.toUInt32 31).toNat % 32 = 22 by decide, Nat.mod_eq_of_lt (by omega)]
  rfl
/-- a bucket's chain -/
def cH (M : MS) (h : Int32) (l : List Nat) : Prop := match l with
  | [] => h = -1
  | i :: r => h = Int32.ofNat i ∧ cH M (gA M 9 i) r
def rooms : List Nat := [1024, 2048, 4096, 8192, 16384, 32768, 65536, 131072]
def TM (g : TG) (M : MS) : Prop := (gI M 2 16 = Int32.ofNat (tU g) ∧ gI M 2 17 = Int32.ofNat (tKU g)) ∧ (tU g ≤ gL M 3 ∧ gL M 3 ∈ rooms) ∧
  (gL M 4 = gL M 3 ∧ gL M 5 = gL M 3 ∧ gL M 6 = gL M 3 ∧ gL M 7 = gL M 3 ∧ gL M 8 = gL M 3 ∧ gL M 9 = gL M 3 ∧ gL M 10 = gL M 3 ∧ gL M 11 = gL M 3 ∧ gL M 12 = 4 * gL M 3 ∧ gL M 14 = 1024) ∧ (tKU g ≤ gL M 13 ∧ 2048 ≤ gL M 13 ∧ gL M 13 ≤ 2000000) ∧
  (∀ i, i < tU g → gA M 3 i = Int32.ofNat (tso g i) ∧ gA M 4 i = Int32.ofNat (ttx g i).length ∧ gA M 5 i = b01 (NS (ttx g i)) ∧ gA M 6 i = Int32.ofNat (tkf g i) ∧ gA M 7 i = Int32.ofNat (tkd g i).length ∧ tkf g i + (tkd g i).length ≤ tKU g ∧ ∀ j, j < (tkd g i).length → gA M 13 (tkf g i + j) = Int32.ofNat ((tkd g i).getD j 0))
def TH (g : TG) (M : MS) : Prop := (∀ i, 18 ≤ i → i < tU g → gA M 8 i = hc (tso g i) (tkd g i)) ∧ ∀ b, b < 1024 → ∃ l, cH M (gA M 14 b) l ∧ l.Nodup ∧ (∀ i ∈ l, 18 ≤ i ∧ i < tU g) ∧ ∀ i, 18 ≤ i → i < tU g → bk (gA M 8 i) = b → i ∈ l
def TA (g : TG) (M : MS) : Prop := ∀ i c, i < tU g → c < 4 → gA M 12 (4 * i + c) = -1 ∨ ∃ d, d < tU g ∧ gA M 12 (4 * i + c) = Int32.ofNat d ∧ ttx g d = DS c (ttx g i)
def TT (g : TG) (M : MS) : Prop := ∀ i, i < tU g → gA M 10 i = Int32.ofNat (ttg g i) ∧ ttg g i ≤ 1000
def TI (g : TG) (M : MS) : Prop := TB g ∧ TM g M ∧ TH g M ∧ TA g M ∧ TT g M
theorem rooms_le {n : Nat} (h : n ∈ rooms) : 1024 ≤ n ∧ n ≤ 131072 := by
  unfold rooms at h
  simp only [List.mem_cons, List.not_mem_nil, or_false] at h
  omega
theorem TM.lt {g : TG} {M : MS} (h : TM g M) : tU g ≤ 131072 ∧ tKU g ≤ 2000000 := by
  have := (rooms_le h.2.1.2).2
  have := h.2.1.1
  have := h.2.2.2.1
  omega
/-- rows of the table -/
def RT : List Nat := [3, 4, 5, 6, 7, 8, 9, 12, 13, 14]
theorem cH.fc {M M1 : MS} {R : List Nat} {F : List (Nat × Nat)} (hf : FC R F M M1) (h9 : 9 ∉ R) : ∀ {l : List Nat} {h : Int32}, cH M h l → cH M1 h l := by
  intro l
  induction l with
  | nil => intro h hh; exact hh
  | cons i r ih =>
    intro h hh
    exact ⟨hh.1, ih (by rw [hf.ga h9]; exact hh.2)⟩
theorem TI.fc {g : TG} {M M1 : MS} {R : List Nat} {F : List (Nat × Nat)} (h : TI g M) (hf : FC R F M M1) (hR : ∀ a, 3 ≤ a → a ≤ 14 → a ∉ R ∨ a = 11) (hL : gL M1 10 = gL M 10 ∧ gL M1 11 = gL M 11) (h16 : (2, 16) ∉ F) (h17 : (2, 17) ∉ F) : TI g M1 := by
  have hr : ∀ a, 3 ≤ a → a ≤ 14 → a ≠ 11 → a ∉ R := fun a h1 h2 h3 => by
    rcases hR a h1 h2 with q | q
    · exact q
    · exact absurd q h3
  have r3 := hr 3 (by omega) (by omega) (by omega)
  have r4 := hr 4 (by omega) (by omega) (by omega)
  have r5 := hr 5 (by omega) (by omega) (by omega)
  have r6 := hr 6 (by omega) (by omega) (by omega)
  have r7 := hr 7 (by omega) (by omega) (by omega)
  have r8 := hr 8 (by omega) (by omega) (by omega)
  have r9 := hr 9 (by omega) (by omega) (by omega)
  have r12 := hr 12 (by omega) (by omega) (by omega)
  have r13 := hr 13 (by omega) (by omega) (by omega)
  have r14 := hr 14 (by omega) (by omega) (by omega)
  obtain ⟨hB, ⟨⟨m1, m2⟩, ⟨m3, m4⟩, ⟨l4, l5, l6, l7, l8, l9, l10, l11, l12, l14⟩, ⟨k1, k2, k3⟩, mi⟩, ⟨h1, h2⟩, hA, hT⟩ := h
  refine ⟨hB, ⟨⟨by rw [hf.gi h16]; exact m1, by rw [hf.gi h17]; exact m2⟩, by rw [hf.gl r3]; exact ⟨m3, m4⟩, ?_, by rw [hf.gl r13]; exact ⟨k1, k2, k3⟩, fun i hi => ?_⟩, ⟨fun i h18 hi => ?_, fun b hb => ?_⟩, fun i c hi hc => ?_, fun i hi => ?_⟩
  · rw [hf.gl r3, hf.gl r4, hf.gl r5, hf.gl r6, hf.gl r7, hf.gl r8, hf.gl r9, hf.gl r12, hf.gl r14, hL.1, hL.2]
    exact ⟨l4, l5, l6, l7, l8, l9, l10, l11, l12, l14⟩
  · rw [hf.ga r3, hf.ga r4, hf.ga r5, hf.ga r6, hf.ga r7, hf.ga r13]
    exact mi i hi
  · rw [hf.ga r8]
    exact h1 i h18 hi
  · obtain ⟨l, q1, q2, q3, q4⟩ := h2 b hb
    refine ⟨l, ?_, q2, q3, fun i h18 hi hbk => q4 i h18 hi ?_⟩
    · rw [hf.ga r14]; exact cH.fc hf r9 q1
    · rw [hf.ga r8] at hbk; exact hbk
  · rw [hf.ga r12]
    exact hA i c hi hc
  · rw [hf.ga (hr 10 (by omega) (by omega) (by omega))]
    exact hT i hi
theorem TI.row {g : TG} {M M1 : MS} {o it : Nat} (h : TI g M) (hR : isR o it) (hf : FC [it] [(o, 1)] M M1) : TI g M1 := by
  refine h.fc hf (fun a h1 h2 => Or.inl ?_) ⟨hf.gl ?_, hf.gl ?_⟩ ?_ ?_
  · rcases hR with ⟨rfl, rfl⟩ | ⟨rfl, rfl⟩ | ⟨rfl, rfl⟩ | ⟨rfl, rfl⟩ | ⟨rfl, rfl⟩ <;> (intro q; have := List.mem_singleton.mp q; omega)
  · rcases hR with ⟨rfl, rfl⟩ | ⟨rfl, rfl⟩ | ⟨rfl, rfl⟩ | ⟨rfl, rfl⟩ | ⟨rfl, rfl⟩ <;> decide
  · rcases hR with ⟨rfl, rfl⟩ | ⟨rfl, rfl⟩ | ⟨rfl, rfl⟩ | ⟨rfl, rfl⟩ | ⟨rfl, rfl⟩ <;> decide
  · rcases hR with ⟨rfl, rfl⟩ | ⟨rfl, rfl⟩ | ⟨rfl, rfl⟩ | ⟨rfl, rfl⟩ | ⟨rfl, rfl⟩ <;> decide
  · rcases hR with ⟨rfl, rfl⟩ | ⟨rfl, rfl⟩ | ⟨rfl, rfl⟩ | ⟨rfl, rfl⟩ | ⟨rfl, rfl⟩ <;> decide
theorem c_kid {g : TG} {M : MS} {i j : Nat} (h : TI g M) (hi : i < tU g) (hj : j < (tkd g i).length) : m_Terms_kid (Int32.ofNat i) (Int32.ofNat j) M = some (M, Int32.ofNat ((tkd g i).getD j 0)) := by
  obtain ⟨hB, hM, -⟩ := h
  have hlt := hM.lt
  obtain ⟨-, ⟨m3, m4⟩, ⟨l4, l5, l6, l7, -⟩, ⟨k1, k2, k3⟩, mi⟩ := hM
  obtain ⟨-, -, -, a6, a7, a8, a9⟩ := mi i hi
  unfold m_Terms_kid
  rw [ld_of (by omega) (by omega), a6, Option.bind_some, i_add_of, ld_of (by omega) (by omega), a9 j hj, Option.bind_some]
theorem c_hasJust17 {g : TG} {M : MS} {i o it : Nat} {own : List Nat} (h : TI g M) (hi : i < tU g) (hR : isR o it) (hW : RW M o it own) (ho : ∀ k ∈ own, k < tU g) (hl : (tkd g i).length = own.length) :
    ∀ (v v' u : List Nat) (F : Nat), tkd g i = u ++ v → own = u ++ v' → v.length < F → fx (fun (k : Int32 × Nat × Int32 × MS → Option (MS × Int32)) (i : Int32 × Nat × Int32 × MS) => m_Terms_hasJust_17b k i.1 i.2.1 i.2.2.1 i.2.2.2) F (Int32.ofNat i, o, Int32.ofNat u.length, M) = some (M, b01 (decide (v = v'))) := by
  have hlt := h.2.1.lt
  have hwl := hW.2.1
  have hwl2 := hW.2.2.2.1
  intro v
  induction v with
  | nil =>
    intro v' u F e1 e2 hF
    have hv' : v' = [] := by
      rw [e1, e2, List.length_append, List.length_append, List.length_nil] at hl
      exact List.length_eq_zero_iff.mp (by omega)
    subst hv'
    rw [List.append_nil] at e2
    cases F with
    | zero => simp at hF
    | succ F =>
      show m_Terms_hasJust_17b _ (Int32.ofNat i) o (Int32.ofNat u.length) M = _
      unfold m_Terms_hasJust_17b
      rw [c_size hR hW, cal_same, if_pos (by show Int32.ofNat own.length ≤ Int32.ofNat u.length; rw [e2]; exact Int32.le_refl _)]
      rfl
  | cons x v ih =>
    intro v' u F e1 e2 hF
    rw [List.length_cons] at hF
    have hll := hl
    rw [e1, e2, List.length_append, List.length_append, List.length_cons] at hll
    cases hv' : v' with
    | nil => rw [hv'] at hll; simp at hll
    | cons y v'' =>
      rw [hv'] at e2 hll
      rw [List.length_cons] at hll
      have hol : own.length = u.length + (v''.length + 1) := by rw [e2, List.length_append, List.length_cons]
      have gx : (tkd g i).getD u.length 0 = x := by rw [e1]; simp
      have gy : own.getD u.length 0 = y := by rw [e2]; simp
      have hxU : x < tU g := Nat.lt_trans (h.1.kids hi x (by rw [e1]; simp)) hi
      have hyU : y < tU g := ho y (by rw [e2]; simp)
      cases F with
      | zero => omega
      | succ F =>
        show m_Terms_hasJust_17b _ (Int32.ofNat i) o (Int32.ofNat u.length) M = _
        unfold m_Terms_hasJust_17b
        rw [c_size hR hW, cal_same, if_neg (by show ¬ Int32.ofNat own.length ≤ Int32.ofNat u.length; rw [i_le_of (by omega) (by omega)]; omega), c_kid h hi (by omega), cal_same, c_get hR hW (by omega), cal_same, gx, gy]
        by_cases hxy : x = y
        · rw [if_pos (by rw [hxy]), i_inc]
          have := ih v'' (u ++ [x]) F (by rw [e1, List.append_assoc]; rfl) (by rw [e2, List.append_assoc, hxy]; rfl) (by omega)
          rw [List.length_append] at this
          refine this.trans ?_
          congr 3
          simp [hxy]
        · rw [if_neg (by show ¬ Int32.ofNat x = Int32.ofNat y; rw [i_eq_of (by omega) (by omega)]; exact hxy)]
          rw [decide_eq_false (by intro e; simp at e; exact hxy e.1)]
          rfl
theorem c_hasJust {g : TG} {M : MS} {i o it : Nat} {own : List Nat} (h : TI g M) (hi : i < tU g) (hR : isR o it) (hW : RW M o it own) (ho : ∀ k ∈ own, k < tU g) : m_Terms_hasJust (Int32.ofNat i) o M = some (M, b01 (decide (tkd g i = own))) := by
  have hlt := h.2.1.lt
  obtain ⟨-, ⟨m3, m4⟩, ⟨l4, l5, l6, l7, -⟩, ⟨k1, k2, k3⟩, mi⟩ := h.2.1
  obtain ⟨-, -, -, a6, a7, a8, a9⟩ := mi i hi
  have hwl := hW.2.1
  have hwl2 := hW.2.2.2.1
  unfold m_Terms_hasJust
  rw [if_pos hR.kd.1, ld_of (by omega) (by omega), a7, Option.bind_some, c_size hR hW, cal_same]
  by_cases hl : (tkd g i).length = own.length
  · rw [if_pos (by rw [hl])]
    exact c_hasJust17 h hi hR hW ho hl (tkd g i) own [] FU rfl rfl (by unfold FU; omega)
  · rw [if_neg (by show ¬ Int32.ofNat (tkd g i).length = Int32.ofNat own.length; rw [i_eq_of (by omega) (by omega)]; exact hl), decide_eq_false (fun e => hl (by rw [e]))]
    rfl
theorem nodup_rng {U : Nat} {l : List Nat} (hn : l.Nodup) (hl : ∀ i ∈ l, 18 ≤ i ∧ i < U) (hU : 18 ≤ U) : l.length + 18 ≤ U := by
  have h2 := nodup_leG (l.map (fun i => i - 18)) (List.range (U - 18)) (by
    refine List.pairwise_map.mpr (List.Pairwise.imp_of_mem (fun {x y} hx hy hne he => ?_) hn)
    have := hl x hx
    have := hl y hy
    exact hne (by omega)) (fun x hx => by
    obtain ⟨i, hi, rfl⟩ := List.mem_map.mp hx
    have := hl i hi
    exact List.mem_range.mpr (by omega))
  rw [List.length_map, List.length_range] at h2
  omega
/-- along a chain: the term that is there, or that it isn't -/
theorem c_node46 {g : TG} {M : MS} {s o it : Nat} {own : List Nat} (h : TI g M) (hs : s < 8) (hR : isR o it) (hW : RW M o it own) (ho : ∀ k ∈ own, k < tU g) : ∀ (r : List Nat) (hd' : Int32) (st F : Nat), cH M hd' r → (∀ i ∈ r, 18 ≤ i ∧ i < tU g) → st + r.length < tU g → r.length < F →
    (∃ i, i ∈ r ∧ tso g i = s ∧ tkd g i = own ∧ fx (fun (k : Int32 × Nat × Int32 × Int32 × Int32 × MS → Option (MS × Int32)) (i : Int32 × Nat × Int32 × Int32 × Int32 × MS) => m_Terms_node_46b k i.1 i.2.1 i.2.2.1 i.2.2.2.1 i.2.2.2.2.1 i.2.2.2.2.2) F (Int32.ofNat s, o, hc s own, hd', Int32.ofNat st, M) = some (M, Int32.ofNat i)) ∨
    ((∀ i ∈ r, ¬ (tso g i = s ∧ tkd g i = own)) ∧ fx (fun (k : Int32 × Nat × Int32 × Int32 × Int32 × MS → Option (MS × Int32)) (i : Int32 × Nat × Int32 × Int32 × Int32 × MS) => m_Terms_node_46b k i.1 i.2.1 i.2.2.1 i.2.2.2.1 i.2.2.2.2.1 i.2.2.2.2.2) F (Int32.ofNat s, o, hc s own, hd', Int32.ofNat st, M) = m_Terms_node_111 (Int32.ofNat s) o (hc s own) M) := by
  have hlt := h.2.1.lt
  obtain ⟨⟨m1, m2⟩, ⟨m3, m4⟩, ⟨l4, l5, l6, l7, l8, l9, -⟩, ⟨k1, k2, k3⟩, mi⟩ := h.2.1
  intro r
  induction r with
  | nil =>
    intro hd' st F hC hr hst hF
    have hC : hd' = -1 := hC
    subst hC
    rw [List.length_nil] at hst
    right
    refine ⟨(fun i hi => by cases hi), ?_⟩
    cases F with
    | zero => simp at hF
    | succ F =>
      show m_Terms_node_46b _ (Int32.ofNat s) o (hc s own) (-1) (Int32.ofNat st) M = _
      unfold m_Terms_node_46b
      rw [m1, if_neg (by rw [i_le_of (by omega) (by omega)]; omega), if_pos rfl]
  | cons i r ih =>
    intro hd' st F hC hr hst hF
    obtain ⟨hC1, hC2⟩ := hC
    subst hC1
    rw [List.length_cons] at hst hF
    obtain ⟨i1, i2⟩ := hr i List.mem_cons_self
    have hcode := h.2.2.1.1 i i1 i2
    obtain ⟨a3, -, -, a6, a7, a8, a9⟩ := mi i i2
    have hso : tso g i < 8 := by
      rw [← h.1.so i2]
      exact Nat.mod_lt _ (by omega)
    cases F with
    | zero => omega
    | succ F =>
      have hih := ih (gA M 9 i) (st + 1) F hC2 (fun j hj => hr j (List.mem_cons_of_mem _ hj)) (by omega) (by omega)
      have hld9 : ldA M 9 (Int32.ofNat i) = some (gA M 9 i) := ld_of (by omega) (by omega)
      by_cases he : tso g i = s ∧ tkd g i = own
      · left
        refine ⟨i, List.mem_cons_self, he.1, he.2, ?_⟩
        show m_Terms_node_46b _ (Int32.ofNat s) o (hc s own) (Int32.ofNat i) (Int32.ofNat st) M = _
        unfold m_Terms_node_46b
        rw [m1, if_neg (by rw [i_le_of (by omega) (by omega)]; omega), if_neg (i_nm1 (by omega)), ld_of (by omega) (by omega), hcode, he.1, he.2, Option.bind_some, if_neg (fun q => q rfl), ld_of (by omega) (by omega), a3, he.1, Option.bind_some, if_neg (fun q => q rfl), c_hasJust h i2 hR hW ho, cal_same, decide_eq_true he.2, if_neg (by show ¬ b01 true = 0; decide)]
      · have hgo : fx (fun (k : Int32 × Nat × Int32 × Int32 × Int32 × MS → Option (MS × Int32)) (i : Int32 × Nat × Int32 × Int32 × Int32 × MS) => m_Terms_node_46b k i.1 i.2.1 i.2.2.1 i.2.2.2.1 i.2.2.2.2.1 i.2.2.2.2.2) (F + 1) (Int32.ofNat s, o, hc s own, Int32.ofNat i, Int32.ofNat st, M) = fx (fun (k : Int32 × Nat × Int32 × Int32 × Int32 × MS → Option (MS × Int32)) (i : Int32 × Nat × Int32 × Int32 × Int32 × MS) => m_Terms_node_46b k i.1 i.2.1 i.2.2.1 i.2.2.2.1 i.2.2.2.2.1 i.2.2.2.2.2) F (Int32.ofNat s, o, hc s own, gA M 9 i, Int32.ofNat (st + 1), M) := by
          show m_Terms_node_46b _ (Int32.ofNat s) o (hc s own) (Int32.ofNat i) (Int32.ofNat st) M = _
          have gen : ∀ k46, m_Terms_node_46b k46 (Int32.ofNat s) o (hc s own) (Int32.ofNat i) (Int32.ofNat st) M = k46 (Int32.ofNat s, o, hc s own, gA M 9 i, Int32.ofNat (st + 1), M) := by
            intro k46
            unfold m_Terms_node_46b m_Terms_node_96
            rw [m1, if_neg (by rw [i_le_of (by omega) (by omega)]; omega), if_neg (i_nm1 (by omega)), ld_of (by omega) (by omega), hcode, Option.bind_some, hld9, Option.bind_some, i_inc]
            by_cases h1 : hc (tso g i) (tkd g i) = hc s own
            · rw [if_neg (fun q => q h1), ld_of (by omega) (by omega), a3, Option.bind_some]
              by_cases h2 : tso g i = s
              · rw [if_neg (fun q => q (by rw [h2])), c_hasJust h i2 hR hW ho, cal_same, decide_eq_false (fun q => he ⟨h2, q⟩), if_pos (by show b01 false = 0; decide)]
                rw [hld9]
                rfl
              · rw [if_pos (by rw [i_eq_of (by omega) (by omega)]; exact h2)]
            · rw [if_pos h1]
          exact gen _
        rw [hgo]
        rcases hih with ⟨j, j1, j2, j3, j4⟩ | ⟨j1, j2⟩
        · exact Or.inl ⟨j, List.mem_cons_of_mem _ j1, j2, j3, j4⟩
        · refine Or.inr ⟨fun j hj => ?_, j2⟩
          rcases List.mem_cons.mp hj with rfl | hj
          · exact he
          · exact j1 j hj
theorem c_node5 {M : MS} {s o it : Nat} {own : List Nat} (hR : isR o it) (hW : RW M o it own) : ∀ (v u : List Nat) (F : Nat), own = u ++ v → v.length < F → fx (fun (k : Int32 × Nat × Int32 × Int32 × MS → Option (MS × Int32)) (i : Int32 × Nat × Int32 × Int32 × MS) => m_Terms_node_5b k i.1 i.2.1 i.2.2.1 i.2.2.2.1 i.2.2.2.2) F (Int32.ofNat s, o, hc s u, Int32.ofNat u.length, M) = m_Terms_node_32 (Int32.ofNat s) o (hc s own) M := by
  have hwl := hW.2.1
  have hwl2 := hW.2.2.2.1
  intro v
  induction v with
  | nil =>
    intro u F e hF
    rw [List.append_nil] at e
    subst e
    cases F with
    | zero => simp at hF
    | succ F =>
      show m_Terms_node_5b _ (Int32.ofNat s) o (hc s own) (Int32.ofNat own.length) M = _
      unfold m_Terms_node_5b
      rw [c_size hR hW, cal_same, if_pos (Int32.le_refl _)]
  | cons x v ih =>
    intro u F e hF
    rw [List.length_cons] at hF
    have hol : own.length = u.length + (v.length + 1) := by rw [e, List.length_append, List.length_cons]
    have gy : own.getD u.length 0 = x := by rw [e]; simp
    cases F with
    | zero => omega
    | succ F =>
      have hih := ih (u ++ [x]) F (by rw [e, List.append_assoc]; rfl) (by omega)
      have hcs : hc s (u ++ [x]) = (hc s u + Int32.ofNat x) * (-1640531535) := by
        unfold hc hcF
        rw [List.foldl_append]
        rfl
      rw [hcs, List.length_append, List.length_singleton] at hih
      refine Eq.trans ?_ hih
      show m_Terms_node_5b _ (Int32.ofNat s) o (hc s u) (Int32.ofNat u.length) M = _
      have gen : ∀ k5, m_Terms_node_5b k5 (Int32.ofNat s) o (hc s u) (Int32.ofNat u.length) M = k5 (Int32.ofNat s, o, (hc s u + Int32.ofNat x) * (-1640531535), Int32.ofNat (u.length + 1), M) := by
        intro k5
        unfold m_Terms_node_5b
        rw [c_size hR hW, cal_same, if_neg (by show ¬ Int32.ofNat own.length ≤ Int32.ofNat u.length; rw [i_le_of (by omega) (by omega)]; omega), c_get hR hW (by omega), cal_same, gy, i_inc]
      exact gen _
/-- node: the term that is there, or a new one has to be made -/
theorem c_look {g : TG} {M : MS} {s o it : Nat} {own : List Nat} (h : TI g M) (hs : s < 8) (hR : isR o it) (hW : RW M o it own) (ho : ∀ k ∈ own, k < tU g) :
    (∃ i, 18 ≤ i ∧ i < tU g ∧ tso g i = s ∧ tkd g i = own ∧ m_Terms_node (Int32.ofNat s) o M = some (M, Int32.ofNat i)) ∨ ((∀ i, 18 ≤ i → i < tU g → ¬ (tso g i = s ∧ tkd g i = own)) ∧ m_Terms_node (Int32.ofNat s) o M = m_Terms_node_111 (Int32.ofNat s) o (hc s own) M) := by
  have hwl := hW.2.1
  have hwl2 := hW.2.2.2.1
  have hU18 := h.1.1
  have hlt := h.2.1.lt
  have hbk := bk_lt (hc s own)
  obtain ⟨l, q1, q2, q3, q4⟩ := h.2.2.1.2 (bk (hc s own)) hbk
  have hll := nodup_rng q2 q3 hU18
  have l14 := h.2.1.2.2.1.2.2.2.2.2.2.2.2.2
  have h5 := c_node5 (M := M) (s := s) hR hW own [] FU rfl (by unfold FU; omega)
  have h5' : m_Terms_node (Int32.ofNat s) o M = m_Terms_node_32 (Int32.ofNat s) o (hc s own) M := by
    unfold m_Terms_node
    rw [if_pos hR.kd.1]
    exact h5
  have h32 : m_Terms_node_32 (Int32.ofNat s) o (hc s own) M = m_Terms_node_46 (Int32.ofNat s, o, hc s own, gA M 14 (bk (hc s own)), 0, M) := by
    unfold m_Terms_node_32
    rw [bk_of, ld_of (by omega) (by omega), Option.bind_some]
  rcases c_node46 h hs hR hW ho l (gA M 14 (bk (hc s own))) 0 FU q1 q3 (by omega) (by unfold FU; omega) with ⟨i, i1, i2, i3, i4⟩ | ⟨i1, i2⟩
  · left
    refine ⟨i, (q3 i i1).1, (q3 i i1).2, i2, i3, ?_⟩
    rw [h5', h32]
    exact i4
  · right
    refine ⟨fun i h18 hi he => ?_, ?_⟩
    · refine i1 i (q4 i h18 hi ?_) he
      rw [h.2.2.1.1 i h18 hi, he.1, he.2]
    · rw [h5', h32]
      exact i2
