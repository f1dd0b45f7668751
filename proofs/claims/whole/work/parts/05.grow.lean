/-! a row that grows: Arrays.copyOf, and the field that takes what it answers -/
def stG (M : MS) (a : Nat) (n : Int32) : Option MS := if n < 0 ∨ n.toNatClampNeg ≤ gL M a ∨ 134217728 < n.toNatClampNeg ∨ x_gr (gD M xWC 1) = true ∨ x_gr (gD M xWC 2) = true then none else
  some (fun m => if m = a then (fun j => if j < gL M a then gA M a j else 0) else M.1 m, M.2.1, fun m => if m = a then n.toNatClampNeg else M.2.2.1 m, M.2.2.2.1, M.2.2.2.2.1, ((cM M).1 + 1, (cM M).2 + n.toNatClampNeg))
theorem x_u1 {n j : Nat} (h1 : x_kd n < 20) (h2 : j < x_Nf (x_kd n)) (h3 : x_ft (x_kd n) j = 1) : x_ow (x_sr n j) = n * 100 + j := by
  have q : ∀ n, n < xNW → x_kd n < 20 → ∀ j, j < x_Nf (x_kd n) → x_ft (x_kd n) j = 1 → x_ow (x_sr n j) = n * 100 + j := by decide +kernel
  exact q n (x_kd_lt (by omega)) h1 j h2 h3
theorem x_u0 {n j : Nat} (h1 : x_kd n < 20) (h2 : j < x_Nf (x_kd n)) : j < 100 := by
  have q : ∀ n, n < xNW → x_kd n < 20 → x_Nf (x_kd n) < 100 := by decide +kernel
  have := q n (x_kd_lt (by omega)) h1
  omega
theorem x_u2 {n j : Nat} (h1 : x_kd n < 20) (h2 : j < x_Nf (x_kd n)) (h3 : ¬ x_ft (x_kd n) j = 0) (h4 : ¬ x_ft (x_kd n) j = 1) : n = xWC ∧ (j = 1 ∨ j = 2) := by
  have q : ∀ n, n < xNW → x_kd n < 20 → ∀ j, j < x_Nf (x_kd n) → x_ft (x_kd n) j = 0 ∨ x_ft (x_kd n) j = 1 ∨ (n = xWC ∧ (j = 1 ∨ j = 2)) := by decide +kernel
  rcases q n (x_kd_lt (by omega)) h1 j h2 with h | h | h
  · exact absurd h h3
  · exact absurd h h4
  · exact h
theorem x_u3 (j : Nat) : ¬ x_kd (x_sm j) = 21 := by
  have q : ∀ j, j < 17 → ¬ x_kd (x_sm j) = 21 := by decide +kernel
  by_cases h : j < 16
  · exact q j (by omega)
  · have e : x_sm j = x_sm 16 := by unfold x_sm; rw [if_neg h, if_neg (by decide)]
    rw [e]
    exact q 16 (by decide)
abbrev y_copyOf : MethodName := ⟨"java/util/Arrays", "copyOf", "([II)[I"⟩
abbrev b_copyOf : ByteArray := prog_21_method_123_code
theorem cd_copyOf : Cond.code y_copyOf b_copyOf 3 (some (.array .int)) ∈ x_T := xmem 466 (by decide +kernel) rfl
theorem st_copyOf : Cond.static y_copyOf ∈ x_T := xmem 465 (by decide +kernel) rfl
theorem in_Arrays : Cond.initialized "java/util/Arrays" ∈ x_T := xmem 5 (by decide +kernel) rfl
theorem lk_min : Cond.methodLink "java/util/Arrays" 304 Lib.Math.min.name ∈ x_T := xmem 474 (by decide +kernel) rfl
theorem lk_acp : Cond.methodLink "java/util/Arrays" 150 arraycopyName ∈ x_T := xmem 477 (by decide +kernel) rfl
theorem st_min : Cond.static Lib.Math.min.name ∈ x_T := xmem 475 (by decide +kernel) rfl
theorem cd_min : Cond.code Lib.Math.min.name Lib.Math.min.code 2 (some .int) ∈ x_T := xmem 476 (by decide +kernel) rfl
theorem in_math : Cond.initialized "java/lang/Math" ∈ x_T := xmem 18 (by decide +kernel) rfl
theorem nt_acp : Cond.native arraycopyName ∈ x_T := xmem 479 (by decide +kernel) rfl
theorem st_acp : Cond.static arraycopyName ∈ x_T := xmem 478 (by decide +kernel) rfl
theorem in_sys : Cond.initialized "java/lang/System" ∈ x_T := xmem 19 (by decide +kernel) rfl
theorem ac_int : Cond.arrayClass .int ∈ x_T := xmem 47 (by decide +kernel) rfl
theorem d_cp_0 : decode b_copyOf 0 = .ok (.iload_n 1, 1) := by decide +kernel
theorem d_cp_1 : decode b_copyOf 1 = .ok (.aload_n 0, 1) := by decide +kernel
theorem d_cp_2 : decode b_copyOf 2 = .ok (.arraylength, 1) := by decide +kernel
theorem d_cp_3 : decode b_copyOf 3 = .ok (.if_icmp .ne 11, 3) := by decide +kernel
theorem d_cp_14 : decode b_copyOf 14 = .ok (.iload_n 1, 1) := by decide +kernel
theorem d_cp_15 : decode b_copyOf 15 = .ok (.newarray .int, 2) := by decide +kernel
theorem d_cp_17 : decode b_copyOf 17 = .ok (.astore_n 2, 1) := by decide +kernel
theorem d_cp_18 : decode b_copyOf 18 = .ok (.aload_n 0, 1) := by decide +kernel
theorem d_cp_19 : decode b_copyOf 19 = .ok (.iconst 0, 1) := by decide +kernel
theorem d_cp_20 : decode b_copyOf 20 = .ok (.aload_n 2, 1) := by decide +kernel
theorem d_cp_21 : decode b_copyOf 21 = .ok (.iconst 0, 1) := by decide +kernel
theorem d_cp_22 : decode b_copyOf 22 = .ok (.aload_n 0, 1) := by decide +kernel
theorem d_cp_23 : decode b_copyOf 23 = .ok (.arraylength, 1) := by decide +kernel
theorem d_cp_24 : decode b_copyOf 24 = .ok (.iload_n 1, 1) := by decide +kernel
theorem d_cp_25 : decode b_copyOf 25 = .ok (.invokestatic 304, 3) := by decide +kernel
theorem d_cp_28 : decode b_copyOf 28 = .ok (.invokestatic 150, 3) := by decide +kernel
theorem d_cp_31 : decode b_copyOf 31 = .ok (.aload_n 2, 1) := by decide +kernel
theorem d_cp_32 : decode b_copyOf 32 = .ok (.areturn, 1) := by decide +kernel
theorem x_min0 {L : Nat} {n : Int32} (hn : ¬ n < 0) (h : L ≤ n.toNatClampNeg) : (if n < Int32.ofNat L then n else Int32.ofNat L).toNatClampNeg = L ∧ ¬ (if n < Int32.ofNat L then n else Int32.ofNat L) < 0 := by
  have hN : (n.toNatClampNeg : Int) = n.toInt := by
    have hz0 : (0 : Int) ≤ n.toInt := by
      have := Int32.not_lt.mp hn
      simpa using Int32.le_iff_toInt_le.mp this
    show ((n.toInt.toNat : Nat) : Int) = n.toInt
    omega
  have hlt : L < 2 ^ 31 := by
    have := Int32.toInt_lt n
    omega
  have h1 : (Int32.ofNat L).toInt = (L : Int) := toInt_of rfl hlt
  have hnl : ¬ n < Int32.ofNat L := by
    intro q
    have := Int32.lt_iff_toInt_lt.mp q
    omega
  rw [if_neg hnl]
  refine ⟨clamp_of rfl hlt, ?_⟩
  intro q
  have h5 := Int32.lt_iff_toInt_lt.mp q
  have h0 : (0 : Int32).toInt = 0 := by decide
  rw [h1, h0] at h5
  omega
theorem x_ne0 {L : Nat} {n : Int32} (hn : ¬ n < 0) (h : L < n.toNatClampNeg) : ¬ n = Int32.ofNat L := by
  intro q
  have hlt : L < 2 ^ 31 := by
    have h1 := Int32.toInt_lt n
    have h2 : (n.toNatClampNeg : Int) = n.toInt := by
      have hz0 : (0 : Int) ≤ n.toInt := by
        have := Int32.not_lt.mp hn
        simpa using Int32.le_iff_toInt_le.mp this
      show ((n.toInt.toNat : Nat) : Int) = n.toInt
      omega
    omega
  have := clamp_of q hlt
  omega
set_option maxHeartbeats 4000000 in
theorem c_copyOf (l : Launch) (D : va_G) (g : Nat → ClassId) (aA L : Nat) (f : Nat → Int32) (n : Int32) (base : Nat) (hn : ¬ n < 0) (hL : L < n.toNatClampNeg) (hbt : n.toNatClampNeg ≤ 134217728) (hbase : base ≤ aA) :
    Met l y_copyOf (Cond.code y_copyOf b_copyOf 3 (some (.array .int)) :: x_T) { frames := 1, cells := 1, slots := n.toNatClampNeg, locals := 60 }
      (fun a U => a = #[.ref aA, .int n] ∧ va_K D x_cl (xty g) U ∧ va_P D x_cl [(aA, .inl (g 0, L, .inl f))] U.heap ∧ base ≤ U.heap.size)
      (fun _ st o t => ∃ q : Nat, st.heap.size ≤ q ∧ o = .returned (some (.ref q)) ∧ t.heap[q]? = some (vp_cell (g 0) (n.toNatClampNeg, .inl (fun j => if j < L then f j else 0))) ∧ st.heap.size ≤ t.heap.size ∧ ∀ r : Nat, r < st.heap.size → t.heap[r]? = st.heap[r]?)
      1 n.toNatClampNeg (fun q : Nat => base ≤ q) := by
  refine Met.ofW (cc := b_copyOf) (maxL := 3) (ret := some (.array .int)) (by decide) rfl ?_
  intro p e s m args below meth c s₁ B hml hv
  obtain ⟨rfl, hK, hP, hb0⟩ := hv
  have hx := B.exec
  have hb := B.bytes
  have hr := B.returns
  have hts := atoms_spec (ws := Cond.code y_copyOf b_copyOf 3 (some (.array .int)) :: x_T) B.pre
  have hT : ∀ w ∈ x_T, w.before #[.ref aA, .int n] s = true := fun w hw => hts w (List.mem_cons_of_mem _ hw)
  have hown : s.vm.findClass "java/util/Arrays" = some m.cls := findClass_of_methodNamed B.named
  have hlocks := B.notSynchronized
  have haA : aA < s.heap.size := (hP 0 _ rfl).lt
  generalize hAe : (fun r : Nat => r = aA ∨ s.heap.size ≤ r) = A
  have hA : ∀ q : Nat, s.heap.size ≤ q → A q := fun q h => by rw [← hAe]; exact Or.inr h
  have hS : va_S A s.heap s.heap [] := va_S.rf
  have hD : va_D A [(aA, .inl (g 0, L, .inl f))] := by
    refine ⟨fun i j p q h1 h2 _ => ?_, fun k q h => ?_⟩
    · have := (List.getElem?_eq_some_iff.mp h1).1
      have := (List.getElem?_eq_some_iff.mp h2).1
      simp at *
      omega
    · have h0 := (List.getElem?_eq_some_iff.mp h).1
      simp at h0
      subst h0
      cases h
      rw [← hAe]
      exact Or.inl rfl
  have hl := lv_entry ([.ref aA, .int n]) (n := 3) (Nat.le_of_ble_eq_true rfl)
  have he0 := lg_entry_eq m [Value.ref aA, .int n] 3
  have he1 : entryFrame m #[Value.ref aA, .int n] 3 = F0 m 0 ((lg_sl [Value.ref aA, .int n] ++ List.replicate (3 - (lg_sl [Value.ref aA, .int n]).length) Slot.unset).toArray) [] := he0
  rw [he1]
  generalize (lg_sl ([.ref aA, .int n]) ++ List.replicate (3 - (lg_sl ([.ref aA, .int n])).length) Slot.unset).toArray = ls at hl ⊢
  have hl : lv_has ls 3 [(0, .ref aA), (1, .int n)] := hl
  refine lv_iload_n hx hb d_cp_0 rfl (lv_at hl 1 rfl) ?_
  refine lv_aload_n hx hb d_cp_1 rfl (lv_at hl 0 rfl) ?_
  refine va_alen hx hb hK hP 0 0 rfl rfl rfl d_cp_2 ?_
  refine lv_icmp_ne (tgt := 14) hx hb d_cp_3 rfl (fun _ => ?_) (fun h => absurd h (x_ne0 hn hL))
  refine lv_iload_n hx hb d_cp_14 rfl (lv_at hl 1 rfl) ?_
  refine va_newa (atype := .int) (N' := n.toNatClampNeg) (a0 := (n.toNatClampNeg, .inl (fun _ => 0))) (ty := .int) hx hb (hT _ ac_int) rfl hK hP hD hS hA (fun cA => rfl) hn rfl (by show n.toNatClampNeg * 4 ≤ 536870912; omega) (Nat.le_refl 1) (by show 0 + _ ≤ _; rw [Nat.zero_add]; exact Nat.le_refl _) d_cp_15 (fun q cA H hK2 hP hD hS => ?_)
  have hcA : cA = g 0 := by
    have h1 : s.vm.findClass ("[" ++ FieldType.int.toString) = some cA := (hK2.2 4 (cA, .int) rfl).2
    have h2 : s.vm.findClass ("[" ++ FieldType.int.toString) = some (g 0) := (hK.2 0 (g 0, .int) rfl).2
    exact Option.some.inj (h1.symm.trans h2)
  subst hcA
  have hq1 : s.heap.size ≤ q := by
    have h1 : A q := hD.2 1 _ rfl
    rw [← hAe] at h1
    rcases h1 with h1 | h1
    · have := hD.1 1 0 _ _ rfl rfl h1
      cases this
    · exact h1
  refine lv_astore_n (lv' := [(2, .ref q), (0, .ref aA), (1, .int n)]) hx hb d_cp_17 rfl hl (by decide) rfl (fun ls hl => ?_)
  refine lv_aload_n hx hb d_cp_18 rfl (lv_at hl 1 rfl) ?_
  refine lv_iconst (v := 0) hx hb d_cp_19 (by decide) ?_
  refine lv_aload_n hx hb d_cp_20 rfl (lv_at hl 0 rfl) ?_
  refine lv_iconst (v := 0) hx hb d_cp_21 (by decide) ?_
  refine lv_aload_n hx hb d_cp_22 rfl (lv_at hl 1 rfl) ?_
  refine va_alen hx hb hK hP 0 0 rfl rfl rfl d_cp_23 ?_
  refine lv_iload_n hx hb d_cp_24 rfl (lv_at hl 2 rfl) ?_
  refine va_mmin hx hb (hml.trans hl.1.symm) hown (hT _ lk_min) (hT _ st_min) (hT _ in_math) (hT _ cd_min) (Nat.le_refl 1) (by show _ ≤ 60; simp [Value.category]) (by show 0 + 1 ≤ 1; omega) (by show 0 + _ ≤ n.toNatClampNeg; omega) d_cp_25 ?_
  obtain ⟨m1, m2⟩ := x_min0 (L := L) hn (Nat.le_of_lt hL)
  generalize (if n < Int32.ofNat L then n else Int32.ofNat L) = z at m1 m2 ⊢
  refine va_copyi (ty := .int) hx hb (hml.trans hl.1.symm) hown (hT _ lk_acp) (hT _ nt_acp) (hT _ st_acp) (hT _ in_sys) hK hP hD hS 0 1 0 0 rfl rfl rfl rfl rfl (by decide) (by decide) m2 (by rw [m1]; show 0 + L ≤ L; omega) (by rw [m1]; show 0 + L ≤ _; omega) (fun _ _ => rfl) (Nat.le_refl 1) (by show _ ≤ 60; decide) d_cp_28 (fun H2 locs2 hP2 hD2 hS2 => ?_)
  refine lv_aload_n hx hb d_cp_31 rfl (lv_at hl 0 rfl) ?_
  refine W.cs (cells' := 1) (slots' := n.toNatClampNeg) (by rfl) (by omega) ?_
  refine W.aret (v := .ref q) hx hb hr (Or.inr ⟨_, rfl⟩) (Or.inr ⟨_, rfl⟩) (fun t ht hW => ⟨q, hq1, rfl, ?_, ?_, ?_⟩) (fun z9 hz9 => ?_) d_cp_32
  · have h1 := hS2.2.2 z9 hz9
    rw [← hAe] at h1
    show base ≤ z9.base
    rcases h1 with h1 | h1 <;> omega
  · rw [ht]
    have h9 := hP2 1 _ rfl
    refine Eq.trans h9 ?_
    have hf : va_cpy f (fun _ => 0) (Int32.toNatClampNeg 0) (Int32.toNatClampNeg 0) L = fun j => if j < L then f j else 0 := by
      funext j
      have h0 : Int32.toNatClampNeg 0 = 0 := by decide
      rw [h0]
      simp [va_cpy]
    rw [m1]
    show some (vp_cell (g 0) (n.toNatClampNeg, .inl (va_cpy f (fun _ => 0) (Int32.toNatClampNeg 0) (Int32.toNatClampNeg 0) L))) = _
    rw [hf]
  · rw [ht]; exact hS2.1
  · intro r hr9
    rw [ht]
    by_cases h0 : r = aA
    · subst h0
      have h1 := hP2 0 _ rfl
      have h2 := hP 0 _ rfl
      exact h1.trans (by
        have : va_P D x_cl [(r, .inl (g 0, L, .inl f))] s.heap := by assumption
        exact (this 0 _ rfl).symm)
    · exact hS2.2.1 r hr9 (by rw [← hAe]; intro h; rcases h with h | h <;> omega)

/-- the world behind a growth: the row's name stands for the new cell -/
theorem xg_ent (g : Nat → ClassId) (aa : Nat → Nat) {M M1 : MS} {a o k q : Nat} {n : Int32} (hM : stG M a n = some M1) (ha : x_kd a = 21) (ho : x_kd o < 20) (hk : k < x_Nf (x_kd o)) (hft : x_ft (x_kd o) k = 1) (hsr : x_sr o k = a) :
    (∀ i, i ≠ a → i ≠ o → xent g (fun z => if z = a then q else aa z) M1 i = xent g aa M i) ∧ xent g (fun z => if z = a then q else aa z) M1 a = .inl (g 0, n.toNatClampNeg, .inl (fun j => if j < gL M a then gA M a j else 0)) ∧
    xent g (fun z => if z = a then q else aa z) M1 o = .inr (x_kd o, ((List.range (x_Nf (x_kd o))).map (xf aa M o)).set k (.ref q)) ∧ cM M1 = ((cM M).1 + 1, (cM M).2 + n.toNatClampNeg) ∧ ¬ n < 0 ∧ gL M a < n.toNatClampNeg ∧ n.toNatClampNeg ≤ 134217728 := by
  unfold stG at hM
  by_cases hc : n < 0 ∨ n.toNatClampNeg ≤ gL M a ∨ 134217728 < n.toNatClampNeg ∨ x_gr (gD M xWC 1) = true ∨ x_gr (gD M xWC 2) = true
  · rw [if_pos hc] at hM; cases hM
  · rw [if_neg hc] at hM
    cases hM
    simp only [not_or] at hc
    obtain ⟨c1, c2, c3, c4, c5⟩ := hc
    have hgr : ∀ z, z = a → x_gr z = true := fun z hz => by subst hz; unfold x_gr; rw [ha]; decide
    -- a field's value, but for the one field
    have hxf : ∀ i j, x_kd i < 20 → j < x_Nf (x_kd i) → ¬ (i = o ∧ j = k) → ∀ M2 : MS, gI M2 = gI M → gD M2 = gD M → xf (fun z => if z = a then q else aa z) M2 i j = xf aa M i j := by
      intro i j hi hj hne M2 hI hD
      unfold xf
      rw [hI, hD]
      by_cases f0 : x_ft (x_kd i) j = 0
      · rw [if_pos f0, if_pos f0]
      · rw [if_neg f0, if_neg f0]
        by_cases f1 : x_ft (x_kd i) j = 1
        · rw [if_pos f1, if_pos f1]
          have hna : ¬ x_sr i j = a := by
            intro hz
            have u1 := x_u1 hi hj f1
            have u2 := x_u1 ho hk hft
            rw [hz] at u1
            rw [hsr] at u2
            have v1 := x_u0 hi hj
            have v2 := x_u0 ho hk
            exact hne (by constructor <;> omega)
          simp [hna]
        · rw [if_neg f1, if_neg f1]
          obtain ⟨rfl, hj2⟩ := x_u2 hi hj f0 f1
          have hna : ¬ gD M xWC j = a := by
            intro hz
            have := hgr _ hz
            rcases hj2 with rfl | rfl
            · exact c4 this
            · exact c5 this
          simp [hna]
    refine ⟨fun i h1 h2 => ?_, ?_, ?_, rfl, c1, by omega, by omega⟩
    · unfold xent
      by_cases k1 : x_kd i < 20
      · rw [if_pos k1, if_pos k1]
        congr 2
        apply List.map_congr_left
        intro j hj
        exact hxf i j k1 (List.mem_range.mp hj) (fun h => h2 h.1) _ rfl rfl
      · rw [if_neg k1, if_neg k1]
        have e1 : gA (fun m => if m = a then (fun j => if j < gL M a then gA M a j else 0) else M.1 m, M.2.1, fun m => if m = a then n.toNatClampNeg else M.2.2.1 m, M.2.2.2.1, M.2.2.2.2.1, ((cM M).1 + 1, (cM M).2 + n.toNatClampNeg)) i = gA M i := by simp [gA, h1]
        have e2 : gL (fun m => if m = a then (fun j => if j < gL M a then gA M a j else 0) else M.1 m, M.2.1, fun m => if m = a then n.toNatClampNeg else M.2.2.1 m, M.2.2.2.1, M.2.2.2.2.1, ((cM M).1 + 1, (cM M).2 + n.toNatClampNeg)) i = gL M i := by simp [gL, h1]
        have e3 : gJ (fun m => if m = a then (fun j => if j < gL M a then gA M a j else 0) else M.1 m, M.2.1, fun m => if m = a then n.toNatClampNeg else M.2.2.1 m, M.2.2.2.1, M.2.2.2.2.1, ((cM M).1 + 1, (cM M).2 + n.toNatClampNeg)) i = gJ M i := rfl
        rw [e1, e2, e3]
        have e4 : (fun j => some ((fun z => if z = a then q else aa z) (x_sm j))) = (fun j => some (aa (x_sm j))) := by
          funext j
          have : ¬ x_sm j = a := fun hz => x_u3 j (by rw [hz]; exact ha)
          simp [this]
        rw [e4]
    · rw [xent_int g _ _ (Or.inr ha)]
      simp [gA, gL]
    · rw [xent_obj g _ _ rfl ho]
      congr 2
      apply List.ext_getElem?
      intro j
      rw [List.getElem?_set, List.getElem?_map, List.getElem?_map]
      by_cases hj : k = j
      · subst hj
        simp [hk, xf, hft, hsr]
      · rw [if_neg hj]
        by_cases hjn : j < x_Nf (x_kd o)
        · rw [List.getElem?_range hjn]
          exact congrArg some (hxf o j ho hjn (fun h => hj h.2.symm) _ rfl rfl)
        · rw [List.getElem?_eq_none (by simpa using hjn)]
          rfl
section GROW
variable {p : Program} {l : Launch} {e : Env} {R : Room} {s : State} {m : MethodId} {args : Array Value} {below : List Frame} {meth : Method} {c : Code} {nL : Nat} {D : va_G} {base : Nat}
variable {α : Type} {g : Nat → ClassId} {a0 : Nat → Nat} {k0 : Nat × Nat} {fc : α → Nat × Nat} {Z : α → State → Prop}
variable {cc : ByteArray} {own : String} {w0 : Cond} {rt : Option FieldType} {fr lo : Nat} {pc : Nat} {st : List Value} {lv : List (Nat × Value)} {M : MS} {x : Option α}
set_option maxHeartbeats 4000000 in
theorem s_grow {o k ci a index index2 : Nat} {n : Int32} {C : String} {T : u_T} {ty0 : Nat → FieldType} {kk : MS → Option α} (B : xB p R s m args meth c cc nL own (w0 :: x_T) rt fr lo D x_cl (xty g) base) (hc : xCls x_cl x_T ci C T ty0) (ho : x_kd o = ci) (hk : k < x_Nf ci) (hft : x_ft ci k = 1) (hT : (T k).1 = C)
    (hml : Cond.methodLink own index y_copyOf ∈ w0 :: x_T) (hlk : Cond.fieldLink own index2 C (T k).2.1 (T k).2.2.1 ∈ x_T) (hfin : (T k).2.2.2 = false) (hty : ty0 k = .array .int) (hsr : x_sr o k = a) (ha : x_kd a = 21) (hd : decode cc pc = .ok (.invokestatic index, 3)) (hd2 : decode cc (pc + 3) = .ok (.putfield index2, 3))
    (hn1 : st.all (xng x_gr) = true) (hn2 : lv.all (fun q => xng x_gr q.2) = true) (hF : 2 ≤ fr) (hL : 82 ≤ lo) (hsum : (st.map fun v => v.category).sum ≤ 6)
    (h : ∀ M1, stG M a n = some M1 → Sn p l e R s m args below meth c nL D x_cl base (xwd g) cM x_gr a0 k0 fc Z (pc + 6) st lv M1 (kk M1)) :
    Sn p l e R s m args below meth c nL D x_cl base (xwd g) cM x_gr a0 k0 fc Z pc (.int n :: .ref a :: .ref o :: st) lv M ((stG M a n).bind kk) := by
  cases hM : stG M a n with
  | none => exact s_none
  | some M1 =>
    have h9 := h M1 hM
    intro r hr
    obtain ⟨h1, h2, h3⟩ := h9 r hr
    subst ho
    obtain ⟨c1, c2, c3, c4, c5⟩ := id hc
    have hoN : o < xNW := x_kd_lt (by omega)
    have haN : a < xNW := x_kd_lt (by rw [ha]; decide)
    have hoa : o ≠ a := by intro q; rw [q, ha] at c2; omega
    obtain ⟨-, -, -, e4, e5, e6, e7⟩ := xg_ent g a0 (q := 0) hM ha c2 hk hft hsr
    rw [e4] at h1 h2 h3
    dsimp only at h1 h2 h3
    refine ⟨by omega, by omega, fun aa H locs ls hag hw hl g1 g2 g3 g4 => ?_⟩
    obtain ⟨hP, hD, hS⟩ := hw
    have hPa : va_P D x_cl [(aa a, .inl (g 0, gL M a, .inl (gA M a)))] H := by
      intro j q hj
      have h0 := (List.getElem?_eq_some_iff.mp hj).1
      simp at h0
      subst h0
      cases hj
      exact hP a _ (xat aa haN (xent_int g aa M (Or.inr ha)))
    have hba : base ≤ aa a := hD.2 a _ (xat aa haN (xent_int g aa M (Or.inr ha)))
    have ht := B.2.2.2.2.1
    have hM0 := c_copyOf l D g (aa a) (gL M a) (gA M a) n base e5 e6 e7 hba
    have hrun := va_runS (p := p) (e := e) (R := R) (s := s) (m := m) (args := args) (below := below) (meth := meth) (c := c) (H := H) (locs := locs) (cells := (cM M).1 - k0.1) (slots := (cM M).2 - k0.2) (As := [.ref (aa a), .int n]) (rest := .ref (aa o) :: st.map (xt aa)) (g := F0 m pc ls (.int n :: .ref (aa a) :: .ref (aa o) :: st.map (xt aa))) (n := 2) (cc := cc) (nL := nL) (own := own) (index := index)
      ⟨B.1, B.2.1, B.2.2.1, B.2.2.2.1, ht⟩ hM0 ⟨callB_of 2 ht (xgood cd_copyOf) rfl rfl rfl (ht _ (List.mem_cons_of_mem _ in_Arrays)) (ht _ hml) (by decide +kernel) ⟨by rw [B.2.2.2.2.2.2.2.1]; exact hF, by rw [B.2.2.2.2.2.2.2.2.1]; show 8 + (3 + 11) + 60 ≤ lo; omega⟩, ht _ (List.mem_cons_of_mem _ st_copyOf)⟩
      ⟨fun a9 U g9 mk q => ⟨q.1, va_K.moved (u := U) (U := U.calling g9 mk a9) (Vm.Alike.refl U.vm) q.2.1, q.2.2.1, q.2.2.2⟩, fun U hU hWm => ⟨rfl, va_K.moved hWm.alike B.2.2.2.2.2.2.2.2.2.1, by rw [hU]; exact hPa, by rw [hU]; exact Nat.le_trans B.2.2.2.2.2.2.2.2.2.2 hS.1⟩⟩ rfl rfl hl.1 rfl (lv_room (by
        have e8 : ((st.map (xt aa)).map fun v => v.category).sum = (st.map fun v => v.category).sum := by rw [List.map_map]; simp [Function.comp_def, xt_cat]
        show 1 + ((st.map (xt aa)).map fun v => v.category).sum ≤ 8
        rw [e8]
        omega)) hd ⟨by omega, by omega⟩
    intro T0 hT0 X
    obtain ⟨v, st₀, t, T', L, z0, X', hL9, z1, z2, ⟨q, q1, q2, q3, q4, q5⟩, stp⟩ := hrun T0 hT0 X
    cases q2
    rw [z0] at q1 q4 q5
    have hP' : va_P D x_cl (xwd g aa M ++ [(q, .inl (g 0, n.toNatClampNeg, .inl (fun j => if j < gL M a then gA M a j else 0)))]) T'.heap := by
      refine va_P.app (hP.kept (fun j y hy => ?_)) (fun j y hy => ?_)
      · rw [z1]; exact q5 _ (hP j y hy).lt
      · have h0 := (List.getElem?_eq_some_iff.mp hy).1
        simp at h0
        subst h0
        cases hy
        show T'.heap[q]? = some _
        rw [z1]; exact q3
    have hD' : va_D (fun q : Nat => base ≤ q) (xwd g aa M ++ [(q, .inl (g 0, n.toNatClampNeg, .inl (fun j => if j < gL M a then gA M a j else 0)))]) := by
      refine va_D.app hD ⟨fun i j y w hy hw _ => ?_, fun j y hy => ?_⟩ (fun i j y w hy hw hyw => ?_)
      · have y1 := (List.getElem?_eq_some_iff.mp hy).1
        have w1 := (List.getElem?_eq_some_iff.mp hw).1
        simp at y1 w1
        omega
      · have h0 := (List.getElem?_eq_some_iff.mp hy).1
        simp at h0
        subst h0
        cases hy
        show base ≤ q
        exact Nat.le_trans B.2.2.2.2.2.2.2.2.2.2 (Nat.le_trans hS.1 q1)
      · have h0 := (List.getElem?_eq_some_iff.mp hw).1
        simp at h0
        subst h0
        cases hw
        have y1 := (hP i y hy).lt
        dsimp only at hyw
        omega
    have hS' : va_S (fun q : Nat => base ≤ q) s.heap T'.heap (locs ++ L) := by
      refine ⟨Nat.le_trans hS.1 (by rw [z1]; exact q4), fun y y1 y2 => ?_, fun y hy => ?_⟩
      · rw [z1, q5 y (Nat.lt_of_lt_of_le y1 hS.1)]; exact hS.2.1 y y1 y2
      · rcases List.mem_append.mp hy with hy | hy
        · exact hS.2.2 y hy
        · exact hL9 y hy
    have hlen : (xwd g aa M).length = xNW := by unfold xwd; simp
    have he : (xwd g aa M ++ [(q, .inl (g 0, n.toNatClampNeg, .inl (fun j => if j < gL M a then gA M a j else 0)))])[o]? = some (aa o, .inr (x_kd o, (List.range (x_Nf (x_kd o))).map (xf aa M o))) := by
      rw [List.getElem?_append_left (by rw [hlen]; exact hoN)]
      exact xat (g := g) (M := M) aa hoN (xent_obj g aa M rfl c2)
    have hwk : W p l e R s m args below meth c T'.heap (locs ++ L) ((cM M).1 - k0.1 + 1) ((cM M).2 - k0.2 + n.toNatClampNeg) (Z r) (F0 m (pc + 3) ls (.ref q :: .ref (aa o) :: st.map (xt aa))) := by
      refine va_put (q0 := o) (ci := x_kd o) (v := .ref q) (ty := .array .int) B.1 B.2.1 ht (fun w hw => List.mem_cons_of_mem _ (c3 w hw)) ty0 c4 c5 B.2.2.2.1 B.2.2.2.2.2.2.2.2.2.1 hP' hD' hS' he c1 k hk (ht _ (List.mem_cons_of_mem _ hlk)) (fun y hy => by rw [hT] at hy; exact hy) hfin (by rw [c4 k hk, hty]) rfl rfl (by simpa using hk) hd2 ?_
      intro H1 locs1 hP1 hD1 hS1
      obtain ⟨f1, f2, f3, -⟩ := xg_ent g aa (q := q) hM ha c2 hk hft hsr
      -- where each entry of the new world stands in the list
      have hat : ∀ (i : Nat) (y : Nat × va_E), (xwd g (fun z => if z = a then q else aa z) M1)[i]? = some y → ((xwd g aa M ++ ([(q, .inl (g 0, n.toNatClampNeg, .inl (fun j => if j < gL M a then gA M a j else 0)))] : va_W)).set o (aa o, .inr (x_kd o, ((List.range (x_Nf (x_kd o))).map (xf aa M o)).set k (.ref q))))[if i = a then xNW else i]? = some y := by
        intro i y hy
        rw [xwd_get] at hy
        by_cases hi : i < xNW
        · rw [if_pos hi] at hy
          cases hy
          rw [List.getElem?_set]
          by_cases hia : i = a
          · subst hia
            rw [if_pos rfl, if_neg (by omega), List.getElem?_append_right (by rw [hlen]; exact Nat.le_refl _), hlen, Nat.sub_self, f2]
            simp
          · rw [if_neg hia]
            by_cases hio : o = i
            · subst hio
              rw [if_pos rfl, if_pos (by rw [List.length_append, hlen]; simp; omega), f3]
              simp [hia]
            · rw [if_neg hio, List.getElem?_append_left (by rw [hlen]; exact hi), xwd_at g aa M hi, f1 i hia (Ne.symm hio)]
              simp [hia]
        · rw [if_neg hi] at hy; cases hy
      have h4 := h3 (fun z => if z = a then q else aa z) H1 locs1 ls (fun z hz => by
          have hza : ¬ z = a := by
            intro e9
            subst e9
            unfold x_gr at hz
            rw [ha] at hz
            cases hz
          show (if z = a then q else aa z) = a0 z
          rw [if_neg hza]
          exact hag z hz) ⟨fun i y hy => hP1 _ y (hat i y hy), ⟨fun i j y w hy hw hyw => ?_, fun i y hy => hD1.2 _ y (hat i y hy)⟩, hS1⟩ ?_ (by omega) (by omega) g3 g4
      · have e9 : st.map (xt (fun z => if z = a then q else aa z)) = st.map (xt aa) := by
          apply List.map_congr_left
          intro v9 hv9
          have hng := List.all_eq_true.mp hn1 v9 hv9
          cases v9 with
          | ref z =>
            have hz : x_gr z = false := by simpa [xng] using hng
            have hza : ¬ z = a := by
              intro e8
              subst e8
              unfold x_gr at hz
              rw [ha] at hz
              cases hz
            show Value.ref (if z = a then q else aa z) = Value.ref (aa z)
            rw [if_neg hza]
          | _ => rfl
        rw [e9] at h4
        exact W.cs (by omega) (by omega) h4
      · have e1 := hD1.1 _ _ y w (hat i y hy) (hat j w hw) hyw
        have hi : i < xNW := by
          rw [xwd_get] at hy
          by_cases hi : i < xNW
          · exact hi
          · rw [if_neg hi] at hy; cases hy
        have hj : j < xNW := by
          rw [xwd_get] at hw
          by_cases hj : j < xNW
          · exact hj
          · rw [if_neg hj] at hw; cases hw
        by_cases i1 : i = a <;> by_cases j1 : j = a
        · omega
        · rw [if_pos i1, if_neg j1] at e1; omega
        · rw [if_neg i1, if_pos j1] at e1; omega
        · rw [if_neg i1, if_neg j1] at e1; exact e1
      · have e9 : lv.map (xq (fun z => if z = a then q else aa z)) = lv.map (xq aa) := by
          apply List.map_congr_left
          intro v9 hv9
          have hng := List.all_eq_true.mp hn2 v9 hv9
          obtain ⟨i9, v9⟩ := v9
          show (i9, xt _ v9) = (i9, xt _ v9)
          congr 1
          cases v9 with
          | ref z =>
            have hz : x_gr z = false := by simpa [xng] using hng
            have hza : ¬ z = a := by
              intro e8
              subst e8
              unfold x_gr at hz
              rw [ha] at hz
              cases hz
            show Value.ref (if z = a then q else aa z) = Value.ref (aa z)
            rw [if_neg hza]
          | _ => rfl
        rw [e9]
        exact hl
    obtain ⟨t2, a1, b1⟩ := hwk T' rfl X'
    exact ⟨t2, stp t2 a1, b1⟩
end GROW
