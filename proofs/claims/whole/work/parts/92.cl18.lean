/-! STEP 2, the class: derivative, from the pile's top to its bottom -/
/-- a pile's upper part has been worked off -/
def PD (c : Nat) (K : List Nat) (g : TG) (M : MS) (l : List Nat) (t : Int32) (st F B : Nat) (a k : Nat) : Prop :=
  ∃ M1 g1 n, n ≤ B ∧ dvL F (t, Int32.ofNat c, Int32.ofNat st, M) = dvL (F - n) (t, Int32.ofNat c, Int32.ofNat (st + n), M1) ∧ TI g1 M1 ∧ TE g g1 ∧ RO M1 ∧ RW M1 19 20 l ∧ (∀ x ∈ K, KA g1 M1 c x) ∧ tU g1 ≤ tU g + a ∧ tKU g1 ≤ tKU g + k ∧ FC RNd FNd M M1 ∧ gL M1 20 ≤ 30000 ∧ KP g M M1
def PRd (c x : Nat) : Prop := ∀ (g : TG) (M : MS) (l : List Nat) (t : Int32) (st F : Nat), TI g M → RO M → GD M → RW M 19 20 (l ++ [x]) → x < tU g → (ttx g x).length ≤ 300 → tU g + ct cb (ttx g x) < 131072 → tKU g + ct kb (ttx g x) ≤ 500000 → st + 3 * (ttx g x).length ≤ 900000 → l.length + (ttx g x).length ≤ 5000 → gL M 20 ≤ 30000 → 3 * (ttx g x).length ≤ F →
  PD c [x] g M l t st F (3 * (ttx g x).length) (ct cb (ttx g x)) (ct kb (ttx g x))
def sL (g : TG) (f : List Nat → Nat) (K : List Nat) : Nat := (K.map (fun x => f (ttx g x))).sum
theorem sL_snoc (g : TG) (f : List Nat → Nat) (K : List Nat) (x : Nat) : sL g f (K ++ [x]) = sL g f K + f (ttx g x) := by
  unfold sL
  rw [List.map_append, List.sum_append]
  simp
theorem sL_te {g g1 : TG} (h : TE g g1) (f : List Nat → Nat) {K : List Nat} (hK : ∀ x ∈ K, x < tU g) : sL g1 f K = sL g f K := by
  unfold sL
  congr 1
  exact List.map_congr_left (fun x hx => by rw [h.tx (hK x hx)])
theorem len_sL {g : TG} (h : TB g) : ∀ (K : List Nat), (∀ x ∈ K, x < tU g) → K.length ≤ sL g List.length K := by
  intro K
  induction K with
  | nil => intro _; exact Nat.le_refl _
  | cons y K ih =>
    intro hK
    have h1 := ih (fun k hk => hK k (List.mem_cons_of_mem _ hk))
    have h2 : 1 ≤ (ttx g y).length := List.length_pos_iff.mpr (wf_ne (h.wf (hK y List.mem_cons_self)))
    unfold sL at *
    rw [List.length_cons, List.map_cons, List.sum_cons]
    omega
theorem c_pile {c : Nat} (hc : c < 4) : ∀ (n : Nat) (K : List Nat), K.length = n → (∀ x ∈ K, PRd c x) → ∀ (g : TG) (M : MS) (l : List Nat) (t : Int32) (st F : Nat), TI g M → RO M → GD M → RW M 19 20 (l ++ K) → (∀ x ∈ K, x < tU g) → sL g List.length K ≤ 300 → tU g + sL g (ct cb) K < 131072 → tKU g + sL g (ct kb) K ≤ 500000 → st + 3 * sL g List.length K ≤ 900000 → l.length + sL g List.length K ≤ 5000 → gL M 20 ≤ 30000 → 3 * sL g List.length K ≤ F →
    PD c K g M l t st F (3 * sL g List.length K) (sL g (ct cb) K) (sL g (ct kb) K) := by
  intro n
  induction n with
  | zero =>
    intro K hn hP g M l t st F hI hr hG hW hKU h300 hU hKK hst hl h20 hF
    obtain rfl := List.length_eq_zero_iff.mp hn
    rw [List.append_nil] at hW
    exact ⟨M, g, 0, by omega, by rw [Nat.sub_zero, Nat.add_zero], hI, TE.rf, hr, hW, (fun x hx => by cases hx), by omega, by omega, FC.rf, h20, fun p _ _ => rfl⟩
  | succ n ih =>
    intro K hn hP g M l t st F hI hr hG hW hKU h300 hU hKK hst hl h20 hF
    rcases List.eq_nil_or_concat K with rfl | ⟨K', x, rfl⟩
    · simp at hn
    rw [List.concat_eq_append] at *
    rw [List.length_append, List.length_singleton] at hn
    rw [sL_snoc] at h300 hU hKK hst hl hF ⊢
    rw [sL_snoc, sL_snoc]
    have hxU := hKU x (by simp)
    have hK'U : ∀ y ∈ K', y < tU g := fun y hy => hKU y (List.mem_append_left _ hy)
    have hK'l := len_sL hI.1 K' hK'U
    rw [← List.append_assoc] at hW
    obtain ⟨M1, g1, m, a1, a2, a3, a4, a5, a6, a7, a8, a9, a10, a11, a12⟩ := hP x (by simp) g M (l ++ K') t st F hI hr hG hW hxU (by omega) (by omega) (by omega) (by omega) (by rw [List.length_append]; omega) h20 (by omega)
    have hlt := hI.2.1.lt
    have hlt1 := a3.2.1.lt
    have e1 := sL_te a4 List.length hK'U
    have e2 := sL_te a4 (ct cb) hK'U
    have e3 := sL_te a4 (ct kb) hK'U
    obtain ⟨M2, g2, m2, b1, b2, b3, b4, b5, b6, b7, b8, b9, b10, b11, b12⟩ := ih K' (by omega) (fun y hy => hP y (List.mem_append_left _ hy)) g1 M1 l t (st + m) (F - m) a3 a5 (hG.fc a10) a6 (fun y hy => Nat.lt_of_lt_of_le (hK'U y hy) a4.1) (by rw [e1]; omega) (by rw [e2]; omega) (by rw [e3]; omega) (by rw [e1]; omega) (by rw [e1]; omega) a11 (by rw [e1]; omega)
    rw [e1] at b1
    rw [e2] at b8
    rw [e3] at b9
    refine ⟨M2, g2, m + m2, by omega, ?_, b3, a4.tr b4, b5, b6, fun y hy => ?_, by omega, by omega, a10.tr b10, b11, a12.tr b12 a4.1⟩
    · rw [a2, b2, Nat.sub_sub, Nat.add_assoc]
    · rcases List.mem_append.mp hy with q | q
      · exact b7 y q
      · rw [List.mem_singleton.mp q]
        exact (a7 x (List.mem_singleton.mpr rfl)).keep b4 b12 (Nat.lt_of_lt_of_le hxU a4.1) hc hlt1.1
theorem PRd_all {c : Nat} (hc : c < 4) : ∀ x, PRd c x := by
  intro x
  induction x using Nat.strongRecOn with
  | ind x ih =>
    intro g M l t st F hI hr hG hW hx hlen hU hK hst hl h20 hF
    have hlt := hI.2.1.lt
    have hxl : 1 ≤ (ttx g x).length := List.length_pos_iff.mpr (wf_ne (hI.1.wf hx))
    have cA := ct_ids hI.1 cb hx
    have cK := ct_ids hI.1 kb hx
    have cL := kid_sum hI.1 hx
    obtain ⟨F', rfl⟩ : ∃ F', F = F' + 1 := ⟨F - 1, by omega⟩
    by_cases hk : gA M 12 (4 * x + c) = -1
    · by_cases hu : unK M c (ndK g x) = []
      · obtain ⟨M1, g1, a1, a2, a3, a4, a5, a6, a7, a8, a9, a10, a11⟩ := c_dvC (F := F') (t := t) (st := st) hI hr hG hW hx hc (by omega) hk hlen (by omega) h20 hu (by omega) (by omega)
        exact ⟨M1, g1, 1, by omega, a1, a2, a3, a4, a5, (fun y hy => by rw [List.mem_singleton.mp hy]; exact a6), by omega, by omega, a9, a10, a11⟩
      · have hsub : (unK M c (ndK g x)).Sublist (tkd g x) := (List.filter_sublist).trans (ndK_sub g x)
        have hkU : ∀ k ∈ unK M c (ndK g x), k < x := fun k hk2 => hI.1.kids hx k (hsub.subset hk2)
        have s1 := sublist_sum (f := fun k => (ttx g k).length) hsub
        have s2 := sublist_sum (f := fun k => ct cb (ttx g k)) hsub
        have s3 := sublist_sum (f := fun k => ct kb (ttx g k)) hsub
        have hul := hsub.length_le
        have hnl : (tkd g x).length ≤ ((tkd g x).map (fun k => (ttx g k).length)).sum := by
          have q : ∀ l : List Nat, (∀ k ∈ l, k < tU g) → l.length ≤ (l.map (fun k => (ttx g k).length)).sum := by
            intro l
            induction l with
            | nil => intro _; exact Nat.le_refl _
            | cons y l ih2 =>
              intro hl2
              have h1 := ih2 (fun k hk2 => hl2 k (List.mem_cons_of_mem _ hk2))
              have h2 : 1 ≤ (ttx g y).length := List.length_pos_iff.mpr (wf_ne (hI.1.wf (hl2 y List.mem_cons_self)))
              rw [List.length_cons, List.map_cons, List.sum_cons]
              omega
          exact q _ (fun k hk2 => Nat.lt_trans (hI.1.kids hx k hk2) hx)
        obtain ⟨M1, b1, b2, b3, b4, b5⟩ := c_dvB (F := F') (t := t) (st := st) hI hG hW hx hc (by omega) hk (by omega) (by omega)
        rw [if_pos hu] at b5
        have hr1 := hr.r19 b3
        have w1 : sL g List.length (unK M c (ndK g x)) ≤ ((tkd g x).map (fun k => (ttx g k).length)).sum := s1
        have w2 : sL g (ct cb) (unK M c (ndK g x)) ≤ ((tkd g x).map (fun k => ct cb (ttx g k))).sum := s2
        have w3 : sL g (ct kb) (unK M c (ndK g x)) ≤ ((tkd g x).map (fun k => ct kb (ttx g k))).sum := s3
        obtain ⟨M2, g2, m, d1, d2, d3, d4, d5, d6, d7, d8, d9, d10, d11, d12⟩ := c_pile hc _ (unK M c (ndK g x)) rfl (fun y hy => ih y (hkU y hy)) g M1 (l ++ [x]) t (st + 1) F' b1 hr1 (hG.fc b3) b2 (fun y hy => Nat.lt_trans (hkU y hy) hx) (by omega) (by omega) (by omega) (by omega) (by rw [List.length_append, List.length_singleton]; omega) (by omega) (by omega)
        have hlt2 := d3.2.1.lt
        have hx2 : x < tU g2 := Nat.lt_of_lt_of_le hx d4.1
        have etx := d4.tx hx
        obtain ⟨F2, hF2⟩ : ∃ F2, F' - m = F2 + 1 := ⟨F' - m - 1, by omega⟩
        have hKP : KP g M M2 := fun p hp hn => by
          have e0 : gA M1 12 p = gA M 12 p := by rw [b3.ga (by decide)]
          rw [d12 p hp (by rw [e0]; exact hn), e0]
        -- now all that is needed is known
        have hall : unK M2 c (ndK g2 x) = [] := by
          have hnd : ndK g2 x = ndK g x := by
            obtain ⟨y1, y2, y3, -⟩ := d4.2.2 x hx
            unfold ndK
            rw [y1, y2]
            by_cases h3 : tso g x = 3
            · obtain ⟨p, q, z1, z2, -⟩ := hI.1.cat2 hx h3
              have : (tkd g x).getD 0 0 = p := by rw [z1]; rfl
              rw [this, d4.tx (by omega)]
            · rw [if_neg (fun q => h3 q.1), if_neg (fun q => h3 q.1)]
          rw [hnd]
          unfold unK
          refine List.filter_eq_nil_iff.mpr (fun k hk2 => ?_)
          simp only [decide_eq_true_eq]
          have hkt : k < tU g := Nat.lt_trans (hI.1.kids hx k ((ndK_sub g x).subset hk2)) hx
          by_cases hkn : gA M 12 (4 * k + c) = -1
          · have hm : k ∈ unK M c (ndK g x) := List.mem_filter.mpr ⟨hk2, by simpa using hkn⟩
            obtain ⟨d, z1, z2, -⟩ := d7 k hm
            rw [z2]
            exact i_nm1 (by omega)
          · rw [hKP _ (by omega) hkn]
            exact hkn
        have hfin : ∃ M3 g3, dvL (F2 + 1) (t, Int32.ofNat c, Int32.ofNat (st + 1 + m), M2) = dvL F2 (t, Int32.ofNat c, Int32.ofNat (st + 1 + m + 1), M3) ∧ TI g3 M3 ∧ TE g2 g3 ∧ RO M3 ∧ RW M3 19 20 l ∧ KA g3 M3 c x ∧ tU g3 ≤ tU g2 + cb (ttx g x) ∧ tKU g3 ≤ tKU g2 + kb (ttx g x) ∧ FC RNd FNd M2 M3 ∧ gL M3 20 ≤ 30000 ∧ KP g2 M2 M3 := by
          by_cases hk2 : gA M2 12 (4 * x + c) = -1
          · obtain ⟨M3, g3, a1, a2, a3, a4, a5, a6, a7, a8, a9, a10, a11⟩ := c_dvC (F := F2) (t := t) (st := st + 1 + m) d3 d5 ((hG.fc b3).fc d10) d6 hx2 hc (by omega) hk2 (by rw [etx]; exact hlen) (by omega) d11 hall (by rw [etx]; omega) (by rw [etx]; omega)
            rw [etx] at a7 a8
            exact ⟨M3, g3, a1, a2, a3, a4, a5, a6, a7, a8, a9, a10, a11⟩
          · obtain ⟨M3, a1, a2, a3, a4⟩ := c_dvA (F := F2) (t := t) (st := st + 1 + m) d3 d6 hx2 hc (by omega) hk2
            have hka : KA g2 M3 c x := by
              rcases d3.2.2.2.1 x c hx2 hc with q | ⟨d, z1, z2, z3⟩
              · exact absurd q hk2
              · exact ⟨d, z1, by rw [a3.ga (by decide)]; exact z2, z3⟩
            exact ⟨M3, g2, a1, d3.row isR19 a3, TE.rf, d5.r19 a3, a2, hka, by omega, by omega, a3.mono (by decide) (by decide), by omega, fun p _ _ => by rw [a3.ga (by decide)]⟩
        obtain ⟨M3, g3, f1, f2, f3, f4, f5, f6, f7, f8, f9, f10, f11⟩ := hfin
        refine ⟨M3, g3, 1 + m + 1, by omega, ?_, f2, d4.tr f3, f4, f5, (fun y hy => by rw [List.mem_singleton.mp hy]; exact f6), by omega, by omega, ((b3.mono (by decide) (by decide)).tr d10).tr f9, f10, hKP.tr f11 d4.1⟩
        rw [b5, d2, hF2, f1]
        congr 1
        · omega
        · congr 3
          congr 1
          omega
    · obtain ⟨M1, a1, a2, a3, a4⟩ := c_dvA (F := F') (t := t) (st := st) hI hW hx hc (by omega) hk
      have hka : KA g M1 c x := by
        rcases hI.2.2.2.1 x c hx hc with q | ⟨d, z1, z2, z3⟩
        · exact absurd q hk
        · exact ⟨d, z1, by rw [a3.ga (by decide)]; exact z2, z3⟩
      exact ⟨M1, g, 1, by omega, a1, hI.row isR19 a3, TE.rf, hr.r19 a3, a2, (fun y hy => by rw [List.mem_singleton.mp hy]; exact hka), by omega, by omega, a3.mono (by decide) (by decide), by omega, fun p _ _ => by rw [a3.ga (by decide)]⟩
