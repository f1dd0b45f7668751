/-! the law's entry: what the tables and the start give -/
theorem x_tT {s : State} {b : Nat} (hts : ∀ w ∈ lw_tbl, w.before #[Value.ref b] s = true) : ∀ w ∈ (Cond.tt :: x_T), w.before #[Value.ref b] s = true := by
  intro w hw
  rcases List.mem_cons.mp hw with rfl | h
  · rfl
  · exact hts w (List.mem_filter.mp h).1
theorem x_kC {s : State} {b ci : Nat} {C : String} {T : u_T} {ty0 : Nat → FieldType} (hts : ∀ w ∈ lw_tbl, w.before #[Value.ref b] s = true) (hc : xCls x_cl x_T ci C T ty0) (hi : Cond.instantiable C (x_Nf ci) ∈ x_T) : ∃ d : ClassId × (Nat → Nat), ∀ q, x_cl[ci]? = some q → u_Kn s q.1 q.2.1 q.2.2 d.1 d.2 := by
  have ht : ∀ w ∈ x_T, w.before #[Value.ref b] s = true := fun w hw => hts w (List.mem_filter.mp hw).1
  obtain ⟨c1, c2, c3, c4, c5⟩ := hc
  obtain ⟨cC, iS, h⟩ := u_known ht c3 (ht _ hi)
  refine ⟨(cC, iS), fun q hq => ?_⟩
  rw [c1] at hq
  cases hq
  exact h
theorem x_kA {s : State} {args : Array Value} {ty : FieldType} (h : (Cond.arrayClass ty).before args s = true) (hp : ∀ C, ty ≠ .object C) : ∃ cA, ArrOfT s cA ty ∧ va_RA s cA ty := by
  obtain ⟨cA, kA, comp, h1, h2, h3⟩ := Cond.arrayClass_spec h
  refine ⟨cA, fun n z => ⟨fun k h => (by cases h), kA, h2, comp, h3⟩, ?_⟩
  cases ty with
  | object C => exact absurd rfl (hp C)
  | _ => exact h1
theorem x_kQ {s : State} {C : String} (h : va_AO C s) : ∃ cA, ArrOfT s cA (.object C) ∧ va_RA s cA (.object C) := by
  obtain ⟨comp, c, k, h1, h2, h3, h4, h5⟩ := Cond.arrayOver_spec h
  exact ⟨c, fun n z => ⟨fun k h => (by cases h), k, h3, comp, h4⟩, ⟨k, comp, h3, h4, h1, h5⟩⟩
theorem x_known {s : State} {b : Nat} (hts : ∀ w ∈ lw_tbl, w.before #[Value.ref b] s = true) (hao : va_AO x_RM s) : ∃ (D : va_G) (g : Nat → ClassId), va_K D x_cl (xty g) s := by
  have ht : ∀ w ∈ x_T, w.before #[Value.ref b] s = true := fun w hw => hts w (List.mem_filter.mp hw).1
  have hk : ∀ c : Nat, ∃ d : ClassId × (Nat → Nat), ∀ q, x_cl[c]? = some q → u_Kn s q.1 q.2.1 q.2.2 d.1 d.2 := by
    intro c
    match c with
    | 0 => exact x_kC hts xc_D it_D
    | 1 => exact x_kC hts xc_Row it_Row
    | 2 => exact x_kC hts xc_Gathering it_Gathering
    | 3 => exact x_kC hts xc_Terms it_Terms
    | 4 => exact x_kC hts xc_Machine it_Machine
    | 5 => exact x_kC hts xc_Explorer it_Explorer
    | 6 => exact x_kC hts xc_WordCheck it_WordCheck
    | 7 => exact x_kC hts xc_Splitter it_Splitter
    | 8 => exact x_kC hts xc_Comparison it_Comparison
    | 9 => exact x_kC hts xc_WordCounts it_WordCounts
    | 10 => exact x_kC hts xc_Mo it_Mo
    | n + 11 => exact ⟨(0, fun _ => 0), fun q hq => by simp [x_cl] at hq⟩
  obtain ⟨f, hf⟩ := Classical.axiomOfChoice hk
  obtain ⟨g0, a0⟩ := x_kA (ht _ ac_int) (fun C h => by cases h)
  obtain ⟨g1, a1⟩ := x_kA (ht _ ac_bool) (fun C h => by cases h)
  obtain ⟨g2, a2⟩ := x_kA (ht _ ac_long) (fun C h => by cases h)
  obtain ⟨g3, a3⟩ := x_kQ hao
  refine ⟨(fun c => (f c).1, fun c => (f c).2), fun n => match n with
    | 0 => g0
    | 1 => g1
    | 2 => g2
    | _ => g3, fun c q hq => hf c q hq, fun k q hq => ?_⟩
  match k with
  | 0 => cases hq; exact a0
  | 1 => cases hq; exact a1
  | 2 => cases hq; exact a2
  | 3 => cases hq; exact a3
  | n + 4 => simp [xty] at hq
theorem x_ho1_of {nm ds : String} {args : Array Value} {s : State} (h1 : (Cond.laysStatic "java/lang/Throwable" nm ds).before args s = true) (h2 : (Cond.isRef (.static "java/lang/Throwable" nm ds)).before args s = true) : x_ho1 nm ds s.heap.size s := by
  obtain ⟨c, k, i, fd, a, cell, hc, hf, hst, hsta, hcell, hiss, hcls, hlt, hty⟩ := Cond.laysStatic_spec h1
  obtain ⟨v, hv, hr⟩ := Cond.isRef_spec h2
  have hv2 : cell.slots[fd.slot]? = some v := by simpa [Term.eval, State.fieldNamed?, hf, hst, hsta, hcell, hiss] using hv
  refine ⟨c, k, i, fd, a, cell, v, hc, hf, hst, hsta, (Array.getElem?_eq_some_iff.mp hcell).1, hcell, hiss, hcls, hlt, hty, hv2, ?_⟩
  cases v with
  | null => exact Or.inl rfl
  | ref b => exact Or.inr ⟨b, rfl⟩
  | _ => simp [Value.isRef] at hr
theorem x_na_of {args : Array Value} {s : State} (h : (Cond.not (.castable x_IA x_IO)).before args s = true) : x_na s := by
  simp only [Cond.before, Cond.holds, Cond.value] at h
  cases h1 : s.vm.findClass x_IA with
  | none => simp [h1] at h
  | some c1 =>
    cases h2 : s.vm.findClass x_IO with
    | none => simp [h1, h2] at h
    | some c2 =>
      refine ⟨c1, c2, h1, h2, ?_⟩
      simpa [h1, h2] using h
theorem x_nst_in : ∀ q ∈ x_nst, Cond.methodLinkNest q.1 q.2.1 q.2.2.1 q.2.2.2 ∈ lw_tbl := by decide +kernel
theorem x_dw_in : ∀ w ∈ x_dw, w ∈ lw_tbl ∧ w.onTables = true := by decide +kernel
theorem x_ao_in : Cond.arrayOver (.object x_RM) ∈ lw_tbl := by decide +kernel
theorem x_ls1_in : Cond.laysStatic "java/lang/Throwable" "UNASSIGNED_STACK" "[Ljava/lang/StackTraceElement;" ∈ lw_tbl := by decide +kernel
theorem x_ls2_in : Cond.laysStatic "java/lang/Throwable" "SUPPRESSED_SENTINEL" "Ljava/util/List;" ∈ lw_tbl := by decide +kernel
theorem whole_start0 {p : Program} {e : Env} {s : State} {m : MethodId} {below : List Frame} {meth : Method} {c : Code} (l : Launch) (htr : l.stackTraces = false) {b L : Nat} {xs : Nat → Int32} (hM : m_Law_all xs L = some ()) (C0 : lw_At p s m meth c b L xs) : W p l e room_1 s m #[Value.ref b] below meth c s.heap [] 0 0 (lw_Z below #[Value.ref b] s) (entryFrame m ([Value.ref b] : List Value).toArray 8) := by
  obtain ⟨h1, h2, h3, h4, h5, h6, h7, h8, h9, h10⟩ := C0
  have hfl := flat_of_before _ h10
  have hao : va_AO x_RM s := va_AO.of (h6 _ x_ao_in)
  have hN : xN s := ⟨fun q hq => va_Nw.of rfl (h6 _ (x_nst_in q hq)), hao⟩
  have hho : x_ho s.heap.size s := ⟨x_ho1_of (h6 _ x_ls1_in) (hfl _ (by decide +kernel)), x_ho1_of (h6 _ x_ls2_in) (hfl _ (by decide +kernel)), fun w hw => va_Nw.of (x_dw_in w hw).2 (h6 w (x_dw_in w hw).1), x_na_of (hfl _ (by decide +kernel))⟩
  obtain ⟨D, g, hK⟩ := x_known h6 hao
  have B : xB p room_1 s m #[Value.ref b] meth c code 8 R_Law (Cond.tt :: x_T) ret 12 490 D x_cl (xty g) s.heap.size := ⟨h1, h2, h4, h5, x_tT h6, h3, h9, rfl, rfl, hK, Nat.le_refl _⟩
  obtain ⟨-, -, k⟩ := t_Law_all (e := e) (below := below) (az := fun _ => b) htr B hN hho h7 h8 rfl () hM
  have hl := lv_entry [Value.ref b] (n := 8) (Nat.le_of_ble_eq_true rfl)
  rw [lg_entry_eq]
  exact k (fun _ => b) s.heap [] _ xag.rf ⟨fun k q h => by simp [wdL, x_S0] at h, ⟨fun i j p q h => by simp [wdL, x_S0] at h, fun k q h => by simp [wdL, x_S0] at h⟩, va_S.rf⟩ hl (Nat.le_refl _) (Nat.le_refl _) rfl rfl
