/-! the judgement Sn: from a frame at pc with stack st and locals lv, in the world of the model's state M, the machine comes to what the model's answer x says -/
def xt (aa : Nat → Nat) (v : Value) : Value := match v with
  | .ref k => .ref (aa k)
  | .int x => .int x
  | .long x => .long x
  | .null => .null
  | .float x => .float x
  | .double x => .double x
  | .retAddr x => .retAddr x
def xq (aa : Nat → Nat) (q : Nat × Value) : Nat × Value := (q.1, xt aa q.2)
theorem xt_cat (aa : Nat → Nat) (v : Value) : (xt aa v).category = v.category := by cases v <;> rfl
def xget (lv : List (Nat × Value)) (i : Nat) : Option Value := match lv with
  | [] => none
  | q :: r => if q.1 = i then some q.2 else xget r i
theorem xget_mem {lv : List (Nat × Value)} {i : Nat} {v : Value} (h : xget lv i = some v) : (i, v) ∈ lv := by
  induction lv with
  | nil => cases h
  | cons q r ih =>
    unfold xget at h
    by_cases hq : q.1 = i
    · rw [if_pos hq] at h
      cases h
      subst hq
      exact List.mem_cons_self
    · rw [if_neg hq] at h
      exact List.mem_cons_of_mem _ (ih h)
def xset1 (i : Nat) (v : Value) (lv : List (Nat × Value)) : List (Nat × Value) := (i, v) :: lv.filter (fun q => !(q.1 == i) && !(q.1 + 1 == i && q.2.category == 2))
def xset2 (i : Nat) (v : Value) (lv : List (Nat × Value)) : List (Nat × Value) := (i, v) :: lv.filter (fun q => !(q.1 == i) && (!(q.1 == i + 1) && !(q.1 + 1 == i && q.2.category == 2)))
theorem xset1_map (aa : Nat → Nat) (i : Nat) (v : Value) (lv : List (Nat × Value)) : (i, xt aa v) :: (lv.map (xq aa)).filter (fun q => !(q.1 == i) && !(q.1 + 1 == i && q.2.category == 2)) = (xset1 i v lv).map (xq aa) := by
  unfold xset1
  rw [List.map_cons, List.filter_map]
  congr 1
  congr 1
  apply List.filter_congr
  intro q _
  simp [xq, xt_cat]
theorem xset2_map (aa : Nat → Nat) (i : Nat) (v : Value) (lv : List (Nat × Value)) : (i, xt aa v) :: (lv.map (xq aa)).filter (fun q => !(q.1 == i) && (!(q.1 == i + 1) && !(q.1 + 1 == i && q.2.category == 2))) = (xset2 i v lv).map (xq aa) := by
  unfold xset2
  rw [List.map_cons, List.filter_map]
  congr 1
  congr 1
  apply List.filter_congr
  intro q _
  simp [xq, xt_cat]
def xpick (lv : List (Nat × Value)) (ks : List Nat) : List (Nat × Value) := match ks with
  | [] => []
  | i :: r => match xget lv i with
    | some v => (i, v) :: xpick lv r
    | none => xpick lv r
theorem xpick_sub {lv : List (Nat × Value)} (ks : List Nat) : ∀ q ∈ xpick lv ks, q ∈ lv := by
  induction ks with
  | nil => intro q h; cases h
  | cons i r ih =>
    intro q h
    unfold xpick at h
    cases hg : xget lv i with
    | none => rw [hg] at h; exact ih q h
    | some v =>
      rw [hg] at h
      rcases List.mem_cons.mp h with rfl | h
      · exact xget_mem hg
      · exact ih q h
theorem xl_at {ls : Array Slot} {nL : Nat} {lv : List (Nat × Value)} {aa : Nat → Nat} {i : Nat} {v : Value} (hl : lv_has ls nL (lv.map (xq aa))) (h : xget lv i = some v) : ls[i]? = some (.val (xt aa v)) :=
  hl.2.2 (i, xt aa v) (List.mem_map.mpr ⟨(i, v), xget_mem h, rfl⟩)
theorem xl_sub {ls : Array Slot} {nL : Nat} {lv lv' : List (Nat × Value)} {aa : Nat → Nat} (hl : lv_has ls nL (lv.map (xq aa))) (h : ∀ q ∈ lv', q ∈ lv) : lv_has ls nL (lv'.map (xq aa)) := by
  refine ⟨hl.1, hl.2.1, fun q hq => ?_⟩
  obtain ⟨z, hz, rfl⟩ := List.mem_map.mp hq
  exact hl.2.2 _ (List.mem_map.mpr ⟨z, h z hz, rfl⟩)
theorem xl_args (aa : Nat → Nat) (vs : List Value) : ∀ i, lv_args i (vs.map (xt aa)) = (lv_args i vs).map (xq aa) := by
  induction vs with
  | nil => intro i; rfl
  | cons v r ih =>
    intro i
    simp only [List.map_cons, lv_args, xt_cat, ih]
    first | rfl | simp [xq, xt_cat]
/-- the names that may move -/
def xag (gr : Nat → Bool) (aa0 aa : Nat → Nat) : Prop := ∀ k, gr k = false → aa k = aa0 k
theorem xag.rf {gr : Nat → Bool} {aa : Nat → Nat} : xag gr aa aa := fun _ _ => rfl
theorem xag.tr {gr : Nat → Bool} {a b c : Nat → Nat} (h : xag gr a b) (h2 : xag gr b c) : xag gr a c := fun k hk => (h2 k hk).trans (h k hk)
def xng (gr : Nat → Bool) (v : Value) : Bool := match v with
  | .ref k => !(gr k)
  | _ => true
theorem xng_xt {gr : Nat → Bool} {aa bb : Nat → Nat} (h : xag gr aa bb) {v : Value} (hv : xng gr v = true) : xt bb v = xt aa v := by
  cases v with
  | ref k =>
    have : gr k = false := by simpa [xng] using hv
    show Value.ref (bb k) = Value.ref (aa k)
    rw [h k this]
  | _ => rfl
theorem xng_st {gr : Nat → Bool} {aa bb : Nat → Nat} (h : xag gr aa bb) {st : List Value} (hv : st.all (xng gr) = true) : st.map (xt bb) = st.map (xt aa) := by
  apply List.map_congr_left
  intro v hm
  exact xng_xt h (List.all_eq_true.mp hv v hm)
theorem xng_lv {gr : Nat → Bool} {aa bb : Nat → Nat} (h : xag gr aa bb) {lv : List (Nat × Value)} (hv : lv.all (fun q => xng gr q.2) = true) : lv.map (xq bb) = lv.map (xq aa) := by
  apply List.map_congr_left
  intro v hm
  show (v.1, xt bb v.2) = (v.1, xt aa v.2)
  rw [xng_xt h (List.all_eq_true.mp hv v hm)]
/-- what holds all through a method's body -/
abbrev xB (p : Program) (R : Room) (s : State) (m : MethodId) (args : Array Value) (meth : Method) (c : Code) (cc : ByteArray) (nL : Nat) (own : String) (Ts : List Cond) (rt : Option FieldType) (fr lo : Nat) (D : va_G) (cl : List vw_C) (tys : List (ClassId × FieldType)) (base : Nat) : Prop :=
  p.tables.exec = Jvm.exec ∧ c.code = cc ∧ c.maxLocals = nL ∧ s.vm.findClass own = some m.cls ∧ (∀ w ∈ Ts, w.before args s = true) ∧ meth.sig.returnType = rt ∧ meth.locks = false ∧ R.frames = fr ∧ R.locals = lo ∧ va_K D cl tys s ∧ base ≤ s.heap.size
def xW (D : va_G) (cl : List vw_C) (base : Nat) (ws : va_W) (s : State) (H : Heap) (locs : List Loc) : Prop :=
  va_P D cl ws H ∧ va_D (fun q : Nat => base ≤ q) ws ∧ va_S (fun q : Nat => base ≤ q) s.heap H locs
def Sn {σ α : Type} (p : Program) (l : Launch) (e : Env) (R : Room) (s : State) (m : MethodId) (args : Array Value) (below : List Frame) (meth : Method) (c : Code) (nL : Nat) (D : va_G) (cl : List vw_C) (base : Nat)
    (wd : (Nat → Nat) → σ → va_W) (ct : σ → Nat × Nat) (gr : Nat → Bool) (a0 : Nat → Nat) (k0 : Nat × Nat) (fc : α → Nat × Nat) (Z : α → State → Prop) (pc : Nat) (st : List Value) (lv : List (Nat × Value)) (M : σ) (x : Option α) : Prop :=
  ∀ r, x = some r → (ct M).1 ≤ (fc r).1 ∧ (ct M).2 ≤ (fc r).2 ∧ ∀ (aa : Nat → Nat) (H : Heap) (locs : List Loc) (ls : Array Slot), xag gr a0 aa → xW D cl base (wd aa M) s H locs → lv_has ls nL (lv.map (xq aa)) →
    k0.1 ≤ (ct M).1 → k0.2 ≤ (ct M).2 → R.cells = (fc r).1 - k0.1 → R.slots = (fc r).2 - k0.2 →
    W p l e R s m args below meth c H locs ((ct M).1 - k0.1) ((ct M).2 - k0.2) (Z r) (F0 m pc ls (st.map (xt aa)))
section SN
variable {p : Program} {l : Launch} {e : Env} {R : Room} {s : State} {m : MethodId} {args : Array Value} {below : List Frame} {meth : Method} {c : Code} {nL : Nat} {D : va_G} {cl : List vw_C} {base : Nat}
variable {σ α : Type} {wd : (Nat → Nat) → σ → va_W} {ct : σ → Nat × Nat} {gr : Nat → Bool} {a0 : Nat → Nat} {k0 : Nat × Nat} {fc : α → Nat × Nat} {Z : α → State → Prop}
variable {cc : ByteArray} {own : String} {Ts : List Cond} {rt : Option FieldType} {fr lo : Nat} {tys : List (ClassId × FieldType)} {pc pc1 : Nat} {st st1 : List Value} {lv lv1 : List (Nat × Value)} {M : σ} {x : Option α}
theorem s_step (h : ∀ (aa : Nat → Nat) (H : Heap) (locs : List Loc) (ls : Array Slot) (Z0 : State → Prop) (cells slots : Nat), lv_has ls nL (lv.map (xq aa)) → W p l e R s m args below meth c H locs cells slots Z0 (F0 m pc1 ls (st1.map (xt aa))) → W p l e R s m args below meth c H locs cells slots Z0 (F0 m pc ls (st.map (xt aa))))
    (k : Sn p l e R s m args below meth c nL D cl base wd ct gr a0 k0 fc Z pc1 st1 lv M x) : Sn p l e R s m args below meth c nL D cl base wd ct gr a0 k0 fc Z pc st lv M x := by
  intro r hr
  obtain ⟨h1, h2, h3⟩ := k r hr
  exact ⟨h1, h2, fun aa H locs ls ha hw hl g1 g2 g3 g4 => h aa H locs ls _ _ _ hl (h3 aa H locs ls ha hw hl g1 g2 g3 g4)⟩
theorem s_stepL (h : ∀ (aa : Nat → Nat) (H : Heap) (locs : List Loc) (ls : Array Slot) (Z0 : State → Prop) (cells slots : Nat), lv_has ls nL (lv.map (xq aa)) → (∀ ls' : Array Slot, lv_has ls' nL (lv1.map (xq aa)) → W p l e R s m args below meth c H locs cells slots Z0 (F0 m pc1 ls' (st1.map (xt aa)))) → W p l e R s m args below meth c H locs cells slots Z0 (F0 m pc ls (st.map (xt aa))))
    (k : Sn p l e R s m args below meth c nL D cl base wd ct gr a0 k0 fc Z pc1 st1 lv1 M x) : Sn p l e R s m args below meth c nL D cl base wd ct gr a0 k0 fc Z pc st lv M x := by
  intro r hr
  obtain ⟨h1, h2, h3⟩ := k r hr
  exact ⟨h1, h2, fun aa H locs ls ha hw hl g1 g2 g3 g4 => h aa H locs ls _ _ _ hl (fun ls' hl' => h3 aa H locs ls' ha hw hl' g1 g2 g3 g4)⟩
theorem s_pick (ks : List Nat) (hl : xpick lv ks = lv1) (k : Sn p l e R s m args below meth c nL D cl base wd ct gr a0 k0 fc Z pc st lv1 M x) : Sn p l e R s m args below meth c nL D cl base wd ct gr a0 k0 fc Z pc st lv M x := by
  intro r hr
  obtain ⟨h1, h2, h3⟩ := k r hr
  exact ⟨h1, h2, fun aa H locs ls ha hw hl' g1 g2 g3 g4 => h3 aa H locs ls ha hw (xl_sub hl' (by rw [← hl]; exact xpick_sub ks)) g1 g2 g3 g4⟩
theorem s_none : Sn p l e R s m args below meth c nL D cl base wd ct gr a0 k0 fc Z pc st lv M none := fun r hr => by cases hr
theorem s_if {P : Prop} [Decidable P] {x1 x2 : Option α} (kt : P → Sn p l e R s m args below meth c nL D cl base wd ct gr a0 k0 fc Z pc st lv M x1) (kf : ¬ P → Sn p l e R s m args below meth c nL D cl base wd ct gr a0 k0 fc Z pc st lv M x2) : Sn p l e R s m args below meth c nL D cl base wd ct gr a0 k0 fc Z pc st lv M (if P then x1 else x2) := by
  by_cases h : P
  · rw [if_pos h]; exact kt h
  · rw [if_neg h]; exact kf h
theorem s_guard {P : Prop} [Decidable P] {x1 : Option α} (kt : P → Sn p l e R s m args below meth c nL D cl base wd ct gr a0 k0 fc Z pc st lv M x1) : Sn p l e R s m args below meth c nL D cl base wd ct gr a0 k0 fc Z pc st lv M (if P then x1 else none) := s_if kt (fun _ => s_none)
theorem s_bind {β : Type} {y : Option β} {k : β → Option α} (h : ∀ b, y = some b → Sn p l e R s m args below meth c nL D cl base wd ct gr a0 k0 fc Z pc st lv M (k b)) : Sn p l e R s m args below meth c nL D cl base wd ct gr a0 k0 fc Z pc st lv M (y.bind k) := by
  cases hy : y with
  | none => exact s_none
  | some b => exact h b hy
theorem s_iconst {n : Int} {v : Int32} (B : xB p R s m args meth c cc nL own Ts rt fr lo D cl tys base) (hd : decode cc pc = .ok (.iconst n, 1)) (hv : Int32.ofInt n = v) (k : Sn p l e R s m args below meth c nL D cl base wd ct gr a0 k0 fc Z (pc + 1) (.int v :: st) lv M x) : Sn p l e R s m args below meth c nL D cl base wd ct gr a0 k0 fc Z pc (st) lv M x :=
  s_step (fun aa H locs ls Z0 cells slots hl k => lv_iconst B.1 B.2.1 hd hv k) k
theorem s_bipush {n : Int} {v : Int32} (B : xB p R s m args meth c cc nL own Ts rt fr lo D cl tys base) (hd : decode cc pc = .ok (.bipush n, 2)) (hv : (Int8.ofInt n).toInt32 = v) (k : Sn p l e R s m args below meth c nL D cl base wd ct gr a0 k0 fc Z (pc + 2) (.int v :: st) lv M x) : Sn p l e R s m args below meth c nL D cl base wd ct gr a0 k0 fc Z pc (st) lv M x :=
  s_step (fun aa H locs ls Z0 cells slots hl k => lv_bipush B.1 B.2.1 hd hv k) k
theorem s_sipush {n : Int} {v : Int32} (B : xB p R s m args meth c cc nL own Ts rt fr lo D cl tys base) (hd : decode cc pc = .ok (.sipush n, 3)) (hv : (Int16.ofInt n).toInt32 = v) (k : Sn p l e R s m args below meth c nL D cl base wd ct gr a0 k0 fc Z (pc + 3) (.int v :: st) lv M x) : Sn p l e R s m args below meth c nL D cl base wd ct gr a0 k0 fc Z pc (st) lv M x :=
  s_step (fun aa H locs ls Z0 cells slots hl k => lv_sipush B.1 B.2.1 hd hv k) k
theorem s_lconst {n : Fin 2} {v : Int64} (B : xB p R s m args meth c cc nL own Ts rt fr lo D cl tys base) (hd : decode cc pc = .ok (.lconst n, 1)) (hv : Int64.ofNat (n : Nat) = v) (k : Sn p l e R s m args below meth c nL D cl base wd ct gr a0 k0 fc Z (pc + 1) (.long v :: st) lv M x) : Sn p l e R s m args below meth c nL D cl base wd ct gr a0 k0 fc Z pc (st) lv M x :=
  s_step (fun aa H locs ls Z0 cells slots hl k => lv_lconst B.1 B.2.1 hd hv k) k
theorem s_ldc {i : Nat} {v : Int32} (B : xB p R s m args meth c cc nL own Ts rt fr lo D cl tys base) (hd : decode cc pc = .ok (.ldc i, 2)) (hc : Jvm.Cond.constant own i v ∈ Ts) (k : Sn p l e R s m args below meth c nL D cl base wd ct gr a0 k0 fc Z (pc + 2) (.int v :: st) lv M x) : Sn p l e R s m args below meth c nL D cl base wd ct gr a0 k0 fc Z pc (st) lv M x :=
  s_step (fun aa H locs ls Z0 cells slots hl k => lv_ldc B.1 B.2.1 B.2.2.2.1 (B.2.2.2.2.1 _ hc) hd k) k
theorem s_ldcw {i : Nat} {v : Int32} (B : xB p R s m args meth c cc nL own Ts rt fr lo D cl tys base) (hd : decode cc pc = .ok (.ldc_w i, 3)) (hc : Jvm.Cond.constant own i v ∈ Ts) (k : Sn p l e R s m args below meth c nL D cl base wd ct gr a0 k0 fc Z (pc + 3) (.int v :: st) lv M x) : Sn p l e R s m args below meth c nL D cl base wd ct gr a0 k0 fc Z pc (st) lv M x :=
  s_step (fun aa H locs ls Z0 cells slots hl k => lv_ldcw B.1 B.2.1 B.2.2.2.1 (B.2.2.2.2.1 _ hc) hd k) k
theorem s_ldc2 {i : Nat} {v : Int64} (B : xB p R s m args meth c cc nL own Ts rt fr lo D cl tys base) (hd : decode cc pc = .ok (.ldc2_w i, 3)) (hc : Jvm.Cond.constantLong own i v ∈ Ts) (k : Sn p l e R s m args below meth c nL D cl base wd ct gr a0 k0 fc Z (pc + 3) (.long v :: st) lv M x) : Sn p l e R s m args below meth c nL D cl base wd ct gr a0 k0 fc Z pc (st) lv M x :=
  s_step (fun aa H locs ls Z0 cells slots hl k => lv_ldc2 B.1 B.2.1 B.2.2.2.1 (B.2.2.2.2.1 _ hc) hd k) k
theorem s_iload_n {j : Fin 4} {v : Int32} (B : xB p R s m args meth c cc nL own Ts rt fr lo D cl tys base) (hd : decode cc pc = .ok (.iload_n j, 1)) (hi : xget lv (j : Nat) = some (.int v)) (k : Sn p l e R s m args below meth c nL D cl base wd ct gr a0 k0 fc Z (pc + 1) (.int v :: st) lv M x) : Sn p l e R s m args below meth c nL D cl base wd ct gr a0 k0 fc Z pc (st) lv M x :=
  s_step (fun aa H locs ls Z0 cells slots hl k => lv_iload_n B.1 B.2.1 hd rfl (xl_at hl hi) k) k
theorem s_iload {j : Nat} {v : Int32} (B : xB p R s m args meth c cc nL own Ts rt fr lo D cl tys base) (hd : decode cc pc = .ok (.iload j, 2)) (hi : xget lv j = some (.int v)) (k : Sn p l e R s m args below meth c nL D cl base wd ct gr a0 k0 fc Z (pc + 2) (.int v :: st) lv M x) : Sn p l e R s m args below meth c nL D cl base wd ct gr a0 k0 fc Z pc (st) lv M x :=
  s_step (fun aa H locs ls Z0 cells slots hl k => lv_iload B.1 B.2.1 hd (xl_at hl hi) k) k
theorem s_lload_n {j : Fin 4} {v : Int64} (B : xB p R s m args meth c cc nL own Ts rt fr lo D cl tys base) (hd : decode cc pc = .ok (.lload_n j, 1)) (hi : xget lv (j : Nat) = some (.long v)) (k : Sn p l e R s m args below meth c nL D cl base wd ct gr a0 k0 fc Z (pc + 1) (.long v :: st) lv M x) : Sn p l e R s m args below meth c nL D cl base wd ct gr a0 k0 fc Z pc (st) lv M x :=
  s_step (fun aa H locs ls Z0 cells slots hl k => lv_lload_n B.1 B.2.1 hd rfl (xl_at hl hi) k) k
theorem s_lload {j : Nat} {v : Int64} (B : xB p R s m args meth c cc nL own Ts rt fr lo D cl tys base) (hd : decode cc pc = .ok (.lload j, 2)) (hi : xget lv j = some (.long v)) (k : Sn p l e R s m args below meth c nL D cl base wd ct gr a0 k0 fc Z (pc + 2) (.long v :: st) lv M x) : Sn p l e R s m args below meth c nL D cl base wd ct gr a0 k0 fc Z pc (st) lv M x :=
  s_step (fun aa H locs ls Z0 cells slots hl k => lv_lload B.1 B.2.1 hd (xl_at hl hi) k) k
theorem s_aload_n {j : Fin 4} {v : Nat} (B : xB p R s m args meth c cc nL own Ts rt fr lo D cl tys base) (hd : decode cc pc = .ok (.aload_n j, 1)) (hi : xget lv (j : Nat) = some (.ref v)) (k : Sn p l e R s m args below meth c nL D cl base wd ct gr a0 k0 fc Z (pc + 1) (.ref v :: st) lv M x) : Sn p l e R s m args below meth c nL D cl base wd ct gr a0 k0 fc Z pc (st) lv M x :=
  s_step (fun aa H locs ls Z0 cells slots hl k => lv_aload_n B.1 B.2.1 hd rfl (xl_at hl hi) k) k
theorem s_aload {j : Nat} {v : Nat} (B : xB p R s m args meth c cc nL own Ts rt fr lo D cl tys base) (hd : decode cc pc = .ok (.aload j, 2)) (hi : xget lv j = some (.ref v)) (k : Sn p l e R s m args below meth c nL D cl base wd ct gr a0 k0 fc Z (pc + 2) (.ref v :: st) lv M x) : Sn p l e R s m args below meth c nL D cl base wd ct gr a0 k0 fc Z pc (st) lv M x :=
  s_step (fun aa H locs ls Z0 cells slots hl k => lv_aload B.1 B.2.1 hd (xl_at hl hi) k) k
theorem s_istore_n {j : Fin 4} {v : Int32} (B : xB p R s m args meth c cc nL own Ts rt fr lo D cl tys base) (hd : decode cc pc = .ok (.istore_n j, 1)) (hn : (j : Nat) < nL) (k : Sn p l e R s m args below meth c nL D cl base wd ct gr a0 k0 fc Z (pc + 1) st (xset1 (j : Nat) (.int v) lv) M x) : Sn p l e R s m args below meth c nL D cl base wd ct gr a0 k0 fc Z pc (.int v :: st) lv M x :=
  s_stepL (fun aa H locs ls Z0 cells slots hl k => lv_istore_n B.1 B.2.1 hd rfl hl hn (xset1_map aa (j : Nat) (.int v) lv) k) k
theorem s_istore {j : Nat} {v : Int32} (B : xB p R s m args meth c cc nL own Ts rt fr lo D cl tys base) (hd : decode cc pc = .ok (.istore j, 2)) (hn : j < nL) (k : Sn p l e R s m args below meth c nL D cl base wd ct gr a0 k0 fc Z (pc + 2) st (xset1 j (.int v) lv) M x) : Sn p l e R s m args below meth c nL D cl base wd ct gr a0 k0 fc Z pc (.int v :: st) lv M x :=
  s_stepL (fun aa H locs ls Z0 cells slots hl k => lv_istore B.1 B.2.1 hd hl hn (xset1_map aa j (.int v) lv) k) k
theorem s_lstore_n {j : Fin 4} {v : Int64} (B : xB p R s m args meth c cc nL own Ts rt fr lo D cl tys base) (hd : decode cc pc = .ok (.lstore_n j, 1)) (hn : (j : Nat) + 1 < nL) (k : Sn p l e R s m args below meth c nL D cl base wd ct gr a0 k0 fc Z (pc + 1) st (xset2 (j : Nat) (.long v) lv) M x) : Sn p l e R s m args below meth c nL D cl base wd ct gr a0 k0 fc Z pc (.long v :: st) lv M x :=
  s_stepL (fun aa H locs ls Z0 cells slots hl k => lv_lstore_n B.1 B.2.1 hd rfl hl hn (xset2_map aa (j : Nat) (.long v) lv) k) k
theorem s_lstore {j : Nat} {v : Int64} (B : xB p R s m args meth c cc nL own Ts rt fr lo D cl tys base) (hd : decode cc pc = .ok (.lstore j, 2)) (hn : j + 1 < nL) (k : Sn p l e R s m args below meth c nL D cl base wd ct gr a0 k0 fc Z (pc + 2) st (xset2 j (.long v) lv) M x) : Sn p l e R s m args below meth c nL D cl base wd ct gr a0 k0 fc Z pc (.long v :: st) lv M x :=
  s_stepL (fun aa H locs ls Z0 cells slots hl k => lv_lstore B.1 B.2.1 hd hl hn (xset2_map aa j (.long v) lv) k) k
theorem s_astore_n {j : Fin 4} {v : Nat} (B : xB p R s m args meth c cc nL own Ts rt fr lo D cl tys base) (hd : decode cc pc = .ok (.astore_n j, 1)) (hn : (j : Nat) < nL) (k : Sn p l e R s m args below meth c nL D cl base wd ct gr a0 k0 fc Z (pc + 1) st (xset1 (j : Nat) (.ref v) lv) M x) : Sn p l e R s m args below meth c nL D cl base wd ct gr a0 k0 fc Z pc (.ref v :: st) lv M x :=
  s_stepL (fun aa H locs ls Z0 cells slots hl k => lv_astore_n B.1 B.2.1 hd rfl hl hn (xset1_map aa (j : Nat) (.ref v) lv) k) k
theorem s_astore {j : Nat} {v : Nat} (B : xB p R s m args meth c cc nL own Ts rt fr lo D cl tys base) (hd : decode cc pc = .ok (.astore j, 2)) (hn : j < nL) (k : Sn p l e R s m args below meth c nL D cl base wd ct gr a0 k0 fc Z (pc + 2) st (xset1 j (.ref v) lv) M x) : Sn p l e R s m args below meth c nL D cl base wd ct gr a0 k0 fc Z pc (.ref v :: st) lv M x :=
  s_stepL (fun aa H locs ls Z0 cells slots hl k => lv_astore B.1 B.2.1 hd hl hn (xset1_map aa j (.ref v) lv) k) k
theorem s_iinc {j : Nat} {n : Int} {v w : Int32} (B : xB p R s m args meth c cc nL own Ts rt fr lo D cl tys base) (hd : decode cc pc = .ok (.iinc j n, 3)) (hi : xget lv j = some (.int v)) (hw : Int32.ofInt n = w) (hn : j < nL) (k : Sn p l e R s m args below meth c nL D cl base wd ct gr a0 k0 fc Z (pc + 3) st (xset1 j (.int (v + w)) lv) M x) : Sn p l e R s m args below meth c nL D cl base wd ct gr a0 k0 fc Z pc st lv M x := by
  obtain ⟨q, hq⟩ := List.getElem?_of_mem (xget_mem hi)
  exact s_stepL (fun aa H locs ls Z0 cells slots hl k => lv_iinc (k := q) B.1 B.2.1 hd hl (by rw [List.getElem?_map, hq]; rfl) (by rw [hw]) hn (xset1_map aa j (.int (v + w)) lv) k) k
theorem s_iadd {v w : Int32} (B : xB p R s m args meth c cc nL own Ts rt fr lo D cl tys base) (hd : decode cc pc = .ok (.iadd, 1))  (k : Sn p l e R s m args below meth c nL D cl base wd ct gr a0 k0 fc Z (pc + 1) (.int (v + w) :: st) lv M x) : Sn p l e R s m args below meth c nL D cl base wd ct gr a0 k0 fc Z pc (.int w :: .int v :: st) lv M x :=
  s_step (fun aa H locs ls Z0 cells slots hl k => lv_iadd B.1 B.2.1 hd k) k
theorem s_isub {v w : Int32} (B : xB p R s m args meth c cc nL own Ts rt fr lo D cl tys base) (hd : decode cc pc = .ok (.isub, 1))  (k : Sn p l e R s m args below meth c nL D cl base wd ct gr a0 k0 fc Z (pc + 1) (.int (v - w) :: st) lv M x) : Sn p l e R s m args below meth c nL D cl base wd ct gr a0 k0 fc Z pc (.int w :: .int v :: st) lv M x :=
  s_step (fun aa H locs ls Z0 cells slots hl k => lv_isub B.1 B.2.1 hd k) k
theorem s_imul {v w : Int32} (B : xB p R s m args meth c cc nL own Ts rt fr lo D cl tys base) (hd : decode cc pc = .ok (.imul, 1))  (k : Sn p l e R s m args below meth c nL D cl base wd ct gr a0 k0 fc Z (pc + 1) (.int (v * w) :: st) lv M x) : Sn p l e R s m args below meth c nL D cl base wd ct gr a0 k0 fc Z pc (.int w :: .int v :: st) lv M x :=
  s_step (fun aa H locs ls Z0 cells slots hl k => lv_imul B.1 B.2.1 hd k) k
theorem s_iand {v w : Int32} (B : xB p R s m args meth c cc nL own Ts rt fr lo D cl tys base) (hd : decode cc pc = .ok (.iand, 1))  (k : Sn p l e R s m args below meth c nL D cl base wd ct gr a0 k0 fc Z (pc + 1) (.int (v &&& w) :: st) lv M x) : Sn p l e R s m args below meth c nL D cl base wd ct gr a0 k0 fc Z pc (.int w :: .int v :: st) lv M x :=
  s_step (fun aa H locs ls Z0 cells slots hl k => lv_iand B.1 B.2.1 hd k) k
theorem s_ior {v w : Int32} (B : xB p R s m args meth c cc nL own Ts rt fr lo D cl tys base) (hd : decode cc pc = .ok (.ior, 1))  (k : Sn p l e R s m args below meth c nL D cl base wd ct gr a0 k0 fc Z (pc + 1) (.int (v ||| w) :: st) lv M x) : Sn p l e R s m args below meth c nL D cl base wd ct gr a0 k0 fc Z pc (.int w :: .int v :: st) lv M x :=
  s_step (fun aa H locs ls Z0 cells slots hl k => lv_ior B.1 B.2.1 hd k) k
theorem s_ixor {v w : Int32} (B : xB p R s m args meth c cc nL own Ts rt fr lo D cl tys base) (hd : decode cc pc = .ok (.ixor, 1))  (k : Sn p l e R s m args below meth c nL D cl base wd ct gr a0 k0 fc Z (pc + 1) (.int (v ^^^ w) :: st) lv M x) : Sn p l e R s m args below meth c nL D cl base wd ct gr a0 k0 fc Z pc (.int w :: .int v :: st) lv M x :=
  s_step (fun aa H locs ls Z0 cells slots hl k => lv_ixor B.1 B.2.1 hd k) k
theorem s_ishl {v w : Int32} (B : xB p R s m args meth c cc nL own Ts rt fr lo D cl tys base) (hd : decode cc pc = .ok (.ishl, 1))  (k : Sn p l e R s m args below meth c nL D cl base wd ct gr a0 k0 fc Z (pc + 1) (.int (v <<< (w &&& 31)) :: st) lv M x) : Sn p l e R s m args below meth c nL D cl base wd ct gr a0 k0 fc Z pc (.int w :: .int v :: st) lv M x :=
  s_step (fun aa H locs ls Z0 cells slots hl k => lv_ishl B.1 B.2.1 hd k) k
theorem s_ishr {v w : Int32} (B : xB p R s m args meth c cc nL own Ts rt fr lo D cl tys base) (hd : decode cc pc = .ok (.ishr, 1))  (k : Sn p l e R s m args below meth c nL D cl base wd ct gr a0 k0 fc Z (pc + 1) (.int (v >>> (w &&& 31)) :: st) lv M x) : Sn p l e R s m args below meth c nL D cl base wd ct gr a0 k0 fc Z pc (.int w :: .int v :: st) lv M x :=
  s_step (fun aa H locs ls Z0 cells slots hl k => lv_ishr B.1 B.2.1 hd k) k
theorem s_idiv {v w : Int32} (B : xB p R s m args meth c cc nL own Ts rt fr lo D cl tys base) (hd : decode cc pc = .ok (.idiv, 1)) (h0 : ¬ w = 0) (k : Sn p l e R s m args below meth c nL D cl base wd ct gr a0 k0 fc Z (pc + 1) (.int (v / w) :: st) lv M x) : Sn p l e R s m args below meth c nL D cl base wd ct gr a0 k0 fc Z pc (.int w :: .int v :: st) lv M x :=
  s_step (fun aa H locs ls Z0 cells slots hl k => lv_idiv B.1 B.2.1 hd h0 k) k
theorem s_irem {v w : Int32} (B : xB p R s m args meth c cc nL own Ts rt fr lo D cl tys base) (hd : decode cc pc = .ok (.irem, 1)) (h0 : ¬ w = 0) (k : Sn p l e R s m args below meth c nL D cl base wd ct gr a0 k0 fc Z (pc + 1) (.int (v - v / w * w) :: st) lv M x) : Sn p l e R s m args below meth c nL D cl base wd ct gr a0 k0 fc Z pc (.int w :: .int v :: st) lv M x :=
  s_step (fun aa H locs ls Z0 cells slots hl k => lv_irem B.1 B.2.1 hd h0 k) k
theorem s_ineg {v : Int32} (B : xB p R s m args meth c cc nL own Ts rt fr lo D cl tys base) (hd : decode cc pc = .ok (.ineg, 1))  (k : Sn p l e R s m args below meth c nL D cl base wd ct gr a0 k0 fc Z (pc + 1) (.int (-v) :: st) lv M x) : Sn p l e R s m args below meth c nL D cl base wd ct gr a0 k0 fc Z pc (.int v :: st) lv M x :=
  s_step (fun aa H locs ls Z0 cells slots hl k => lv_ineg B.1 B.2.1 hd k) k
def xushr (v w : Int32) : Int32 := (v.toUInt32 >>> (w.toUInt32 &&& Int32.toUInt32 31)).toInt32
theorem s_iushr {v w : Int32} (B : xB p R s m args meth c cc nL own Ts rt fr lo D cl tys base) (hd : decode cc pc = .ok (.iushr, 1))  (k : Sn p l e R s m args below meth c nL D cl base wd ct gr a0 k0 fc Z (pc + 1) (.int (xushr v w) :: st) lv M x) : Sn p l e R s m args below meth c nL D cl base wd ct gr a0 k0 fc Z pc (.int w :: .int v :: st) lv M x :=
  s_step (fun aa H locs ls Z0 cells slots hl k => lv_iushr B.1 B.2.1 hd rfl k) k
theorem s_ladd {v w : Int64} (B : xB p R s m args meth c cc nL own Ts rt fr lo D cl tys base) (hd : decode cc pc = .ok (.ladd, 1))  (k : Sn p l e R s m args below meth c nL D cl base wd ct gr a0 k0 fc Z (pc + 1) (.long (v + w) :: st) lv M x) : Sn p l e R s m args below meth c nL D cl base wd ct gr a0 k0 fc Z pc (.long w :: .long v :: st) lv M x :=
  s_step (fun aa H locs ls Z0 cells slots hl k => lv_ladd B.1 B.2.1 hd k) k
theorem s_lsub {v w : Int64} (B : xB p R s m args meth c cc nL own Ts rt fr lo D cl tys base) (hd : decode cc pc = .ok (.lsub, 1))  (k : Sn p l e R s m args below meth c nL D cl base wd ct gr a0 k0 fc Z (pc + 1) (.long (v - w) :: st) lv M x) : Sn p l e R s m args below meth c nL D cl base wd ct gr a0 k0 fc Z pc (.long w :: .long v :: st) lv M x :=
  s_step (fun aa H locs ls Z0 cells slots hl k => lv_lsub B.1 B.2.1 hd k) k
theorem s_lmul {v w : Int64} (B : xB p R s m args meth c cc nL own Ts rt fr lo D cl tys base) (hd : decode cc pc = .ok (.lmul, 1))  (k : Sn p l e R s m args below meth c nL D cl base wd ct gr a0 k0 fc Z (pc + 1) (.long (v * w) :: st) lv M x) : Sn p l e R s m args below meth c nL D cl base wd ct gr a0 k0 fc Z pc (.long w :: .long v :: st) lv M x :=
  s_step (fun aa H locs ls Z0 cells slots hl k => lv_lmul B.1 B.2.1 hd k) k
theorem s_land {v w : Int64} (B : xB p R s m args meth c cc nL own Ts rt fr lo D cl tys base) (hd : decode cc pc = .ok (.land, 1))  (k : Sn p l e R s m args below meth c nL D cl base wd ct gr a0 k0 fc Z (pc + 1) (.long (v &&& w) :: st) lv M x) : Sn p l e R s m args below meth c nL D cl base wd ct gr a0 k0 fc Z pc (.long w :: .long v :: st) lv M x :=
  s_step (fun aa H locs ls Z0 cells slots hl k => lv_land B.1 B.2.1 hd k) k
theorem s_lor {v w : Int64} (B : xB p R s m args meth c cc nL own Ts rt fr lo D cl tys base) (hd : decode cc pc = .ok (.lor, 1))  (k : Sn p l e R s m args below meth c nL D cl base wd ct gr a0 k0 fc Z (pc + 1) (.long (v ||| w) :: st) lv M x) : Sn p l e R s m args below meth c nL D cl base wd ct gr a0 k0 fc Z pc (.long w :: .long v :: st) lv M x :=
  s_step (fun aa H locs ls Z0 cells slots hl k => lv_lor B.1 B.2.1 hd k) k
theorem s_lxor {v w : Int64} (B : xB p R s m args meth c cc nL own Ts rt fr lo D cl tys base) (hd : decode cc pc = .ok (.lxor, 1))  (k : Sn p l e R s m args below meth c nL D cl base wd ct gr a0 k0 fc Z (pc + 1) (.long (v ^^^ w) :: st) lv M x) : Sn p l e R s m args below meth c nL D cl base wd ct gr a0 k0 fc Z pc (.long w :: .long v :: st) lv M x :=
  s_step (fun aa H locs ls Z0 cells slots hl k => lv_lxor B.1 B.2.1 hd k) k
theorem s_lshl {v : Int64} {w : Int32} (B : xB p R s m args meth c cc nL own Ts rt fr lo D cl tys base) (hd : decode cc pc = .ok (.lshl, 1))  (k : Sn p l e R s m args below meth c nL D cl base wd ct gr a0 k0 fc Z (pc + 1) (.long (v <<< (w.toInt64 &&& 63)) :: st) lv M x) : Sn p l e R s m args below meth c nL D cl base wd ct gr a0 k0 fc Z pc (.int w :: .long v :: st) lv M x :=
  s_step (fun aa H locs ls Z0 cells slots hl k => lv_lshl B.1 B.2.1 hd rfl k) k
theorem s_lshr {v : Int64} {w : Int32} (B : xB p R s m args meth c cc nL own Ts rt fr lo D cl tys base) (hd : decode cc pc = .ok (.lshr, 1))  (k : Sn p l e R s m args below meth c nL D cl base wd ct gr a0 k0 fc Z (pc + 1) (.long (v >>> (w.toInt64 &&& 63)) :: st) lv M x) : Sn p l e R s m args below meth c nL D cl base wd ct gr a0 k0 fc Z pc (.int w :: .long v :: st) lv M x :=
  s_step (fun aa H locs ls Z0 cells slots hl k => lv_lshr B.1 B.2.1 hd rfl k) k
theorem s_i2l {v : Int32} (B : xB p R s m args meth c cc nL own Ts rt fr lo D cl tys base) (hd : decode cc pc = .ok (.i2l, 1))  (k : Sn p l e R s m args below meth c nL D cl base wd ct gr a0 k0 fc Z (pc + 1) (.long v.toInt64 :: st) lv M x) : Sn p l e R s m args below meth c nL D cl base wd ct gr a0 k0 fc Z pc (.int v :: st) lv M x :=
  s_step (fun aa H locs ls Z0 cells slots hl k => lv_i2l B.1 B.2.1 hd rfl k) k
theorem s_l2i {v : Int64} (B : xB p R s m args meth c cc nL own Ts rt fr lo D cl tys base) (hd : decode cc pc = .ok (.l2i, 1))  (k : Sn p l e R s m args below meth c nL D cl base wd ct gr a0 k0 fc Z (pc + 1) (.int v.toInt32 :: st) lv M x) : Sn p l e R s m args below meth c nL D cl base wd ct gr a0 k0 fc Z pc (.long v :: st) lv M x :=
  s_step (fun aa H locs ls Z0 cells slots hl k => lv_l2i B.1 B.2.1 hd rfl k) k
theorem s_lcmp {v w : Int64} (B : xB p R s m args meth c cc nL own Ts rt fr lo D cl tys base) (hd : decode cc pc = .ok (.lcmp, 1))  (k : Sn p l e R s m args below meth c nL D cl base wd ct gr a0 k0 fc Z (pc + 1) (.int (lg_cmp v w) :: st) lv M x) : Sn p l e R s m args below meth c nL D cl base wd ct gr a0 k0 fc Z pc (.long w :: .long v :: st) lv M x :=
  s_step (fun aa H locs ls Z0 cells slots hl k => W.lcmp B.1 B.2.1 hd k) k
theorem s_dup {va : Value} (B : xB p R s m args meth c cc nL own Ts rt fr lo D cl tys base) (hd : decode cc pc = .ok (.dup, 1)) (h1 : va.category = 1) (k : Sn p l e R s m args below meth c nL D cl base wd ct gr a0 k0 fc Z (pc + 1) (va :: va :: st) lv M x) : Sn p l e R s m args below meth c nL D cl base wd ct gr a0 k0 fc Z pc (va :: st) lv M x :=
  s_step (fun aa H locs ls Z0 cells slots hl k => lv_dup B.1 B.2.1 hd ((xt_cat aa va).trans h1) k) k
theorem s_pop {va : Value} (B : xB p R s m args meth c cc nL own Ts rt fr lo D cl tys base) (hd : decode cc pc = .ok (.pop, 1)) (h1 : va.category = 1) (k : Sn p l e R s m args below meth c nL D cl base wd ct gr a0 k0 fc Z (pc + 1) (st) lv M x) : Sn p l e R s m args below meth c nL D cl base wd ct gr a0 k0 fc Z pc (va :: st) lv M x :=
  s_step (fun aa H locs ls Z0 cells slots hl k => lv_pop B.1 B.2.1 hd ((xt_cat aa va).trans h1) k) k
theorem s_dup_x1 {va vb : Value} (B : xB p R s m args meth c cc nL own Ts rt fr lo D cl tys base) (hd : decode cc pc = .ok (.dup_x1, 1)) (h1 : va.category = 1) (h2 : vb.category = 1) (k : Sn p l e R s m args below meth c nL D cl base wd ct gr a0 k0 fc Z (pc + 1) (va :: vb :: va :: st) lv M x) : Sn p l e R s m args below meth c nL D cl base wd ct gr a0 k0 fc Z pc (va :: vb :: st) lv M x :=
  s_step (fun aa H locs ls Z0 cells slots hl k => lv_dup_x1 B.1 B.2.1 hd ((xt_cat aa va).trans h1) ((xt_cat aa vb).trans h2) k) k
theorem s_dup_x2 {va vb vd : Value} (B : xB p R s m args meth c cc nL own Ts rt fr lo D cl tys base) (hd : decode cc pc = .ok (.dup_x2, 1)) (h1 : va.category = 1) (h2 : vb.category = 1) (h3 : vd.category = 1) (k : Sn p l e R s m args below meth c nL D cl base wd ct gr a0 k0 fc Z (pc + 1) (va :: vb :: vd :: va :: st) lv M x) : Sn p l e R s m args below meth c nL D cl base wd ct gr a0 k0 fc Z pc (va :: vb :: vd :: st) lv M x :=
  s_step (fun aa H locs ls Z0 cells slots hl k => lv_dup_x2 B.1 B.2.1 hd ((xt_cat aa va).trans h1) ((xt_cat aa vb).trans h2) ((xt_cat aa vd).trans h3) k) k
theorem s_dup2_11 {va vb : Value} (B : xB p R s m args meth c cc nL own Ts rt fr lo D cl tys base) (hd : decode cc pc = .ok (.dup2, 1)) (h1 : va.category = 1) (h2 : vb.category = 1) (k : Sn p l e R s m args below meth c nL D cl base wd ct gr a0 k0 fc Z (pc + 1) (va :: vb :: va :: vb :: st) lv M x) : Sn p l e R s m args below meth c nL D cl base wd ct gr a0 k0 fc Z pc (va :: vb :: st) lv M x :=
  s_step (fun aa H locs ls Z0 cells slots hl k => lv_dup2_11 B.1 B.2.1 hd ((xt_cat aa va).trans h1) ((xt_cat aa vb).trans h2) k) k
theorem s_dup2_2 {va : Value} (B : xB p R s m args meth c cc nL own Ts rt fr lo D cl tys base) (hd : decode cc pc = .ok (.dup2, 1)) (h1 : va.category = 2) (k : Sn p l e R s m args below meth c nL D cl base wd ct gr a0 k0 fc Z (pc + 1) (va :: va :: st) lv M x) : Sn p l e R s m args below meth c nL D cl base wd ct gr a0 k0 fc Z pc (va :: st) lv M x :=
  s_step (fun aa H locs ls Z0 cells slots hl k => lv_dup2_2 B.1 B.2.1 hd ((xt_cat aa va).trans h1) k) k
theorem s_pop2_2 {va : Value} (B : xB p R s m args meth c cc nL own Ts rt fr lo D cl tys base) (hd : decode cc pc = .ok (.pop2, 1)) (h1 : va.category = 2) (k : Sn p l e R s m args below meth c nL D cl base wd ct gr a0 k0 fc Z (pc + 1) (st) lv M x) : Sn p l e R s m args below meth c nL D cl base wd ct gr a0 k0 fc Z pc (va :: st) lv M x :=
  s_step (fun aa H locs ls Z0 cells slots hl k => lv_pop2_2 B.1 B.2.1 hd ((xt_cat aa va).trans h1) k) k
theorem s_if_eq {v : Int32} {off : Int} {tgt : Nat} {x1 x2 : Option α} (B : xB p R s m args meth c cc nL own Ts rt fr lo D cl tys base) (hd : decode cc pc = .ok (.ifCond .eq off, 3)) (ht : (pc : Int) + off = (tgt : Int)) (kt : v = 0 → Sn p l e R s m args below meth c nL D cl base wd ct gr a0 k0 fc Z tgt st lv M x1) (kf : ¬ (v = 0) → Sn p l e R s m args below meth c nL D cl base wd ct gr a0 k0 fc Z (pc + 3) st lv M x2) : Sn p l e R s m args below meth c nL D cl base wd ct gr a0 k0 fc Z pc (.int v :: st) lv M (if v = 0 then x1 else x2) := by
  by_cases h : v = 0
  · rw [if_pos h]
    exact s_step (fun aa H locs ls Z0 cells slots hl k => lv_if_eq B.1 B.2.1 hd ht (fun _ => k) (fun q => absurd h q)) (kt h)
  · rw [if_neg h]
    exact s_step (fun aa H locs ls Z0 cells slots hl k => lv_if_eq B.1 B.2.1 hd ht (fun q => absurd q h) (fun _ => k)) (kf h)
theorem s_if_ne {v : Int32} {off : Int} {tgt : Nat} {x1 x2 : Option α} (B : xB p R s m args meth c cc nL own Ts rt fr lo D cl tys base) (hd : decode cc pc = .ok (.ifCond .ne off, 3)) (ht : (pc : Int) + off = (tgt : Int)) (kt : ¬ v = 0 → Sn p l e R s m args below meth c nL D cl base wd ct gr a0 k0 fc Z tgt st lv M x1) (kf : ¬ (¬ v = 0) → Sn p l e R s m args below meth c nL D cl base wd ct gr a0 k0 fc Z (pc + 3) st lv M x2) : Sn p l e R s m args below meth c nL D cl base wd ct gr a0 k0 fc Z pc (.int v :: st) lv M (if ¬ v = 0 then x1 else x2) := by
  by_cases h : ¬ v = 0
  · rw [if_pos h]
    exact s_step (fun aa H locs ls Z0 cells slots hl k => lv_if_ne B.1 B.2.1 hd ht (fun _ => k) (fun q => absurd q h)) (kt h)
  · rw [if_neg h]
    exact s_step (fun aa H locs ls Z0 cells slots hl k => lv_if_ne B.1 B.2.1 hd ht (fun q => absurd q h) (fun _ => k)) (kf h)
theorem s_if_lt {v : Int32} {off : Int} {tgt : Nat} {x1 x2 : Option α} (B : xB p R s m args meth c cc nL own Ts rt fr lo D cl tys base) (hd : decode cc pc = .ok (.ifCond .lt off, 3)) (ht : (pc : Int) + off = (tgt : Int)) (kt : v < 0 → Sn p l e R s m args below meth c nL D cl base wd ct gr a0 k0 fc Z tgt st lv M x1) (kf : ¬ (v < 0) → Sn p l e R s m args below meth c nL D cl base wd ct gr a0 k0 fc Z (pc + 3) st lv M x2) : Sn p l e R s m args below meth c nL D cl base wd ct gr a0 k0 fc Z pc (.int v :: st) lv M (if v < 0 then x1 else x2) := by
  by_cases h : v < 0
  · rw [if_pos h]
    exact s_step (fun aa H locs ls Z0 cells slots hl k => lv_if_lt B.1 B.2.1 hd ht (fun _ => k) (fun q => absurd h q)) (kt h)
  · rw [if_neg h]
    exact s_step (fun aa H locs ls Z0 cells slots hl k => lv_if_lt B.1 B.2.1 hd ht (fun q => absurd q h) (fun _ => k)) (kf h)
theorem s_if_ge {v : Int32} {off : Int} {tgt : Nat} {x1 x2 : Option α} (B : xB p R s m args meth c cc nL own Ts rt fr lo D cl tys base) (hd : decode cc pc = .ok (.ifCond .ge off, 3)) (ht : (pc : Int) + off = (tgt : Int)) (kt : 0 ≤ v → Sn p l e R s m args below meth c nL D cl base wd ct gr a0 k0 fc Z tgt st lv M x1) (kf : ¬ (0 ≤ v) → Sn p l e R s m args below meth c nL D cl base wd ct gr a0 k0 fc Z (pc + 3) st lv M x2) : Sn p l e R s m args below meth c nL D cl base wd ct gr a0 k0 fc Z pc (.int v :: st) lv M (if 0 ≤ v then x1 else x2) := by
  by_cases h : 0 ≤ v
  · rw [if_pos h]
    exact s_step (fun aa H locs ls Z0 cells slots hl k => lv_if_ge B.1 B.2.1 hd ht (fun _ => k) (fun q => absurd h q)) (kt h)
  · rw [if_neg h]
    exact s_step (fun aa H locs ls Z0 cells slots hl k => lv_if_ge B.1 B.2.1 hd ht (fun q => absurd q h) (fun _ => k)) (kf h)
theorem s_if_gt {v : Int32} {off : Int} {tgt : Nat} {x1 x2 : Option α} (B : xB p R s m args meth c cc nL own Ts rt fr lo D cl tys base) (hd : decode cc pc = .ok (.ifCond .gt off, 3)) (ht : (pc : Int) + off = (tgt : Int)) (kt : 0 < v → Sn p l e R s m args below meth c nL D cl base wd ct gr a0 k0 fc Z tgt st lv M x1) (kf : ¬ (0 < v) → Sn p l e R s m args below meth c nL D cl base wd ct gr a0 k0 fc Z (pc + 3) st lv M x2) : Sn p l e R s m args below meth c nL D cl base wd ct gr a0 k0 fc Z pc (.int v :: st) lv M (if 0 < v then x1 else x2) := by
  by_cases h : 0 < v
  · rw [if_pos h]
    exact s_step (fun aa H locs ls Z0 cells slots hl k => lv_if_gt B.1 B.2.1 hd ht (fun _ => k) (fun q => absurd h q)) (kt h)
  · rw [if_neg h]
    exact s_step (fun aa H locs ls Z0 cells slots hl k => lv_if_gt B.1 B.2.1 hd ht (fun q => absurd q h) (fun _ => k)) (kf h)
theorem s_if_le {v : Int32} {off : Int} {tgt : Nat} {x1 x2 : Option α} (B : xB p R s m args meth c cc nL own Ts rt fr lo D cl tys base) (hd : decode cc pc = .ok (.ifCond .le off, 3)) (ht : (pc : Int) + off = (tgt : Int)) (kt : v ≤ 0 → Sn p l e R s m args below meth c nL D cl base wd ct gr a0 k0 fc Z tgt st lv M x1) (kf : ¬ (v ≤ 0) → Sn p l e R s m args below meth c nL D cl base wd ct gr a0 k0 fc Z (pc + 3) st lv M x2) : Sn p l e R s m args below meth c nL D cl base wd ct gr a0 k0 fc Z pc (.int v :: st) lv M (if v ≤ 0 then x1 else x2) := by
  by_cases h : v ≤ 0
  · rw [if_pos h]
    exact s_step (fun aa H locs ls Z0 cells slots hl k => lv_if_le B.1 B.2.1 hd ht (fun _ => k) (fun q => absurd h q)) (kt h)
  · rw [if_neg h]
    exact s_step (fun aa H locs ls Z0 cells slots hl k => lv_if_le B.1 B.2.1 hd ht (fun q => absurd q h) (fun _ => k)) (kf h)
theorem s_icmp_eq {v w : Int32} {off : Int} {tgt : Nat} {x1 x2 : Option α} (B : xB p R s m args meth c cc nL own Ts rt fr lo D cl tys base) (hd : decode cc pc = .ok (.if_icmp .eq off, 3)) (ht : (pc : Int) + off = (tgt : Int)) (kt : v = w → Sn p l e R s m args below meth c nL D cl base wd ct gr a0 k0 fc Z tgt st lv M x1) (kf : ¬ (v = w) → Sn p l e R s m args below meth c nL D cl base wd ct gr a0 k0 fc Z (pc + 3) st lv M x2) : Sn p l e R s m args below meth c nL D cl base wd ct gr a0 k0 fc Z pc (.int w :: .int v :: st) lv M (if v = w then x1 else x2) := by
  by_cases h : v = w
  · rw [if_pos h]
    exact s_step (fun aa H locs ls Z0 cells slots hl k => lv_icmp_eq B.1 B.2.1 hd ht (fun _ => k) (fun q => absurd h q)) (kt h)
  · rw [if_neg h]
    exact s_step (fun aa H locs ls Z0 cells slots hl k => lv_icmp_eq B.1 B.2.1 hd ht (fun q => absurd q h) (fun _ => k)) (kf h)
theorem s_icmp_ne {v w : Int32} {off : Int} {tgt : Nat} {x1 x2 : Option α} (B : xB p R s m args meth c cc nL own Ts rt fr lo D cl tys base) (hd : decode cc pc = .ok (.if_icmp .ne off, 3)) (ht : (pc : Int) + off = (tgt : Int)) (kt : ¬ v = w → Sn p l e R s m args below meth c nL D cl base wd ct gr a0 k0 fc Z tgt st lv M x1) (kf : ¬ (¬ v = w) → Sn p l e R s m args below meth c nL D cl base wd ct gr a0 k0 fc Z (pc + 3) st lv M x2) : Sn p l e R s m args below meth c nL D cl base wd ct gr a0 k0 fc Z pc (.int w :: .int v :: st) lv M (if ¬ v = w then x1 else x2) := by
  by_cases h : ¬ v = w
  · rw [if_pos h]
    exact s_step (fun aa H locs ls Z0 cells slots hl k => lv_icmp_ne B.1 B.2.1 hd ht (fun _ => k) (fun q => absurd q h)) (kt h)
  · rw [if_neg h]
    exact s_step (fun aa H locs ls Z0 cells slots hl k => lv_icmp_ne B.1 B.2.1 hd ht (fun q => absurd q h) (fun _ => k)) (kf h)
theorem s_icmp_lt {v w : Int32} {off : Int} {tgt : Nat} {x1 x2 : Option α} (B : xB p R s m args meth c cc nL own Ts rt fr lo D cl tys base) (hd : decode cc pc = .ok (.if_icmp .lt off, 3)) (ht : (pc : Int) + off = (tgt : Int)) (kt : v < w → Sn p l e R s m args below meth c nL D cl base wd ct gr a0 k0 fc Z tgt st lv M x1) (kf : ¬ (v < w) → Sn p l e R s m args below meth c nL D cl base wd ct gr a0 k0 fc Z (pc + 3) st lv M x2) : Sn p l e R s m args below meth c nL D cl base wd ct gr a0 k0 fc Z pc (.int w :: .int v :: st) lv M (if v < w then x1 else x2) := by
  by_cases h : v < w
  · rw [if_pos h]
    exact s_step (fun aa H locs ls Z0 cells slots hl k => lv_icmp_lt B.1 B.2.1 hd ht (fun _ => k) (fun q => absurd h q)) (kt h)
  · rw [if_neg h]
    exact s_step (fun aa H locs ls Z0 cells slots hl k => lv_icmp_lt B.1 B.2.1 hd ht (fun q => absurd q h) (fun _ => k)) (kf h)
theorem s_icmp_ge {v w : Int32} {off : Int} {tgt : Nat} {x1 x2 : Option α} (B : xB p R s m args meth c cc nL own Ts rt fr lo D cl tys base) (hd : decode cc pc = .ok (.if_icmp .ge off, 3)) (ht : (pc : Int) + off = (tgt : Int)) (kt : w ≤ v → Sn p l e R s m args below meth c nL D cl base wd ct gr a0 k0 fc Z tgt st lv M x1) (kf : ¬ (w ≤ v) → Sn p l e R s m args below meth c nL D cl base wd ct gr a0 k0 fc Z (pc + 3) st lv M x2) : Sn p l e R s m args below meth c nL D cl base wd ct gr a0 k0 fc Z pc (.int w :: .int v :: st) lv M (if w ≤ v then x1 else x2) := by
  by_cases h : w ≤ v
  · rw [if_pos h]
    exact s_step (fun aa H locs ls Z0 cells slots hl k => lv_icmp_ge B.1 B.2.1 hd ht (fun _ => k) (fun q => absurd h q)) (kt h)
  · rw [if_neg h]
    exact s_step (fun aa H locs ls Z0 cells slots hl k => lv_icmp_ge B.1 B.2.1 hd ht (fun q => absurd q h) (fun _ => k)) (kf h)
theorem s_icmp_gt {v w : Int32} {off : Int} {tgt : Nat} {x1 x2 : Option α} (B : xB p R s m args meth c cc nL own Ts rt fr lo D cl tys base) (hd : decode cc pc = .ok (.if_icmp .gt off, 3)) (ht : (pc : Int) + off = (tgt : Int)) (kt : w < v → Sn p l e R s m args below meth c nL D cl base wd ct gr a0 k0 fc Z tgt st lv M x1) (kf : ¬ (w < v) → Sn p l e R s m args below meth c nL D cl base wd ct gr a0 k0 fc Z (pc + 3) st lv M x2) : Sn p l e R s m args below meth c nL D cl base wd ct gr a0 k0 fc Z pc (.int w :: .int v :: st) lv M (if w < v then x1 else x2) := by
  by_cases h : w < v
  · rw [if_pos h]
    exact s_step (fun aa H locs ls Z0 cells slots hl k => lv_icmp_gt B.1 B.2.1 hd ht (fun _ => k) (fun q => absurd h q)) (kt h)
  · rw [if_neg h]
    exact s_step (fun aa H locs ls Z0 cells slots hl k => lv_icmp_gt B.1 B.2.1 hd ht (fun q => absurd q h) (fun _ => k)) (kf h)
theorem s_icmp_le {v w : Int32} {off : Int} {tgt : Nat} {x1 x2 : Option α} (B : xB p R s m args meth c cc nL own Ts rt fr lo D cl tys base) (hd : decode cc pc = .ok (.if_icmp .le off, 3)) (ht : (pc : Int) + off = (tgt : Int)) (kt : v ≤ w → Sn p l e R s m args below meth c nL D cl base wd ct gr a0 k0 fc Z tgt st lv M x1) (kf : ¬ (v ≤ w) → Sn p l e R s m args below meth c nL D cl base wd ct gr a0 k0 fc Z (pc + 3) st lv M x2) : Sn p l e R s m args below meth c nL D cl base wd ct gr a0 k0 fc Z pc (.int w :: .int v :: st) lv M (if v ≤ w then x1 else x2) := by
  by_cases h : v ≤ w
  · rw [if_pos h]
    exact s_step (fun aa H locs ls Z0 cells slots hl k => lv_icmp_le B.1 B.2.1 hd ht (fun _ => k) (fun q => absurd h q)) (kt h)
  · rw [if_neg h]
    exact s_step (fun aa H locs ls Z0 cells slots hl k => lv_icmp_le B.1 B.2.1 hd ht (fun q => absurd q h) (fun _ => k)) (kf h)
theorem s_goto {off : Int} {tgt : Nat} (B : xB p R s m args meth c cc nL own Ts rt fr lo D cl tys base) (hd : decode cc pc = .ok (.goto off, 3)) (ht : (pc : Int) + off = (tgt : Int)) (k : Sn p l e R s m args below meth c nL D cl base wd ct gr a0 k0 fc Z tgt st lv M x) : Sn p l e R s m args below meth c nL D cl base wd ct gr a0 k0 fc Z pc st lv M x :=
  s_step (fun aa H locs ls Z0 cells slots hl k => lv_goto B.1 B.2.1 hd ht k) k
/-- a switch: one arm of it, where the value is known -/
theorem s_tabIn {dflt lw hi off : Int} {offs : Array Int} {len tgt : Nat} {v : Int32} (B : xB p R s m args meth c cc nL own Ts rt fr lo D cl tys base) (hd : decode cc pc = .ok (.tableswitch dflt lw hi offs, len)) (h1 : ¬ v.toInt < lw) (h2 : ¬ hi < v.toInt) (ho : offs[(v.toInt - lw).toNat]? = some off) (ht : (pc : Int) + off = (tgt : Int)) (k : Sn p l e R s m args below meth c nL D cl base wd ct gr a0 k0 fc Z tgt st lv M x) : Sn p l e R s m args below meth c nL D cl base wd ct gr a0 k0 fc Z pc (.int v :: st) lv M x :=
  s_step (fun aa H locs ls Z0 cells slots hl k => lv_tableIn B.1 B.2.1 hd h1 h2 ho ht k) k
theorem s_tabOut {dflt lw hi : Int} {offs : Array Int} {len tgt : Nat} {v : Int32} (B : xB p R s m args meth c cc nL own Ts rt fr lo D cl tys base) (hd : decode cc pc = .ok (.tableswitch dflt lw hi offs, len)) (h : v.toInt < lw ∨ hi < v.toInt) (ht : (pc : Int) + dflt = (tgt : Int)) (k : Sn p l e R s m args below meth c nL D cl base wd ct gr a0 k0 fc Z tgt st lv M x) : Sn p l e R s m args below meth c nL D cl base wd ct gr a0 k0 fc Z pc (.int v :: st) lv M x :=
  s_step (fun aa H locs ls Z0 cells slots hl k => lv_tableOut B.1 B.2.1 hd h ht k) k
theorem s_look {dflt off : Int} {ps : Array (Int × Int)} {len tgt : Nat} {v : Int32} (B : xB p R s m args meth c cc nL own Ts rt fr lo D cl tys base) (hd : decode cc pc = .ok (.lookupswitch dflt ps, len)) (hp : (ps.toList.zip (ps.toList.drop 1)).all (fun (a, next) => a.1 < next.1) = true) (ho : Op.lookupswitch.offset ps.toList dflt v.toInt = off) (ht : (pc : Int) + off = (tgt : Int)) (k : Sn p l e R s m args below meth c nL D cl base wd ct gr a0 k0 fc Z tgt st lv M x) : Sn p l e R s m args below meth c nL D cl base wd ct gr a0 k0 fc Z pc (.int v :: st) lv M x :=
  s_step (fun aa H locs ls Z0 cells slots hl k => lv_lookup B.1 B.2.1 hd hp ho ht k) k
/-- loops: by fuel -/
def fx {ι β : Type} (b : (ι → Option β) → ι → Option β) : Nat → ι → Option β
  | 0, _ => none
  | F + 1, i => b (fx b F) i
def FU : Nat := 1099511627776
end SN
/-! a method's contract out of its walk; returns; calls -/
def xPc {σ : Type} (D : va_G) (cl : List vw_C) (tys : List (ClassId × FieldType)) (base : Nat) (wd : (Nat → Nat) → σ → va_W) (aa : Nat → Nat) (av : List Value) (M : σ) : Array Value → State → Prop := fun a U =>
  a = (av.map (xt aa)).toArray ∧ va_K D cl tys U ∧ va_P D cl (wd aa M) U.heap ∧ va_D (fun q : Nat => base ≤ q) (wd aa M) ∧ base ≤ U.heap.size
theorem xPc.blind {σ : Type} {D : va_G} {cl : List vw_C} {tys : List (ClassId × FieldType)} {base : Nat} {wd : (Nat → Nat) → σ → va_W} {aa : Nat → Nat} {av : List Value} {M : σ} : FrameBlind (xPc D cl tys base wd aa av M) := by
  intro a U g mk q
  obtain ⟨q0, qK, qP, qD, qb⟩ := q
  exact ⟨q0, va_K.moved (u := U) (U := U.calling g mk a) (Vm.Alike.refl U.vm) qK, qP, qD, qb⟩
def xQc {σ : Type} (D : va_G) (cl : List vw_C) (tys : List (ClassId × FieldType)) (base : Nat) (wd : (Nat → Nat) → σ → va_W) (gr : Nat → Bool) (aa : Nat → Nat) (M : σ) (v : Option Value) : Array Value → State → Outcome → State → Prop := fun _ st o t =>
  ∃ bb : Nat → Nat, xag gr aa bb ∧ o = .returned (v.map (xt bb)) ∧ va_K D cl tys t ∧ va_P D cl (wd bb M) t.heap ∧ va_D (fun q : Nat => base ≤ q) (wd bb M) ∧ va_F (fun q : Nat => base ≤ q) st t
def Ct {σ : Type} (l : Launch) (z : MethodName) (ws : List Cond) (fr lo : Nat) (D : va_G) (cl : List vw_C) (tys : List (ClassId × FieldType)) (base : Nat) (wd : (Nat → Nat) → σ → va_W) (ct : σ → Nat × Nat) (gr : Nat → Bool) (av : List Value) (M M1 : σ) (v : Option Value) : Prop :=
  ∀ aa : Nat → Nat, Met l z ws { frames := fr, cells := (ct M1).1 - (ct M).1, slots := (ct M1).2 - (ct M).2, locals := lo } (xPc D cl tys base wd aa av M) (xQc D cl tys base wd gr aa M1 v) ((ct M1).1 - (ct M).1) ((ct M1).2 - (ct M).2) (fun q : Nat => base ≤ q)
def xZ {σ β : Type} (below : List Frame) (args : Array Value) (s : State) (D : va_G) (cl : List vw_C) (tys : List (ClassId × FieldType)) (base : Nat) (wd : (Nat → Nat) → σ → va_W) (ct : σ → Nat × Nat) (gr : Nat → Bool) (a0 : Nat → Nat) (k0 : Nat × Nat) (ov : β → Option Value) : σ × β → State → Prop := fun r =>
  MQ below (xQc D cl tys base wd gr a0 r.1 (ov r.2)) args s ((ct r.1).1 - k0.1) ((ct r.1).2 - k0.2) (fun q : Nat => base ≤ q)
def xfc {σ β : Type} (ct : σ → Nat × Nat) : σ × β → Nat × Nat := fun r => ct r.1
def ovI (v : Int32) : Option Value := some (.int v)
def ovL (v : Int64) : Option Value := some (.long v)
def ovR (v : Nat) : Option Value := some (.ref v)
def ovU (_ : Unit) : Option Value := none
theorem xl_len (aa : Nat → Nat) (vs : List Value) : (lg_sl (vs.map (xt aa))).length = (lg_sl vs).length := by
  unfold lg_sl
  induction vs with
  | nil => rfl
  | cons v r ih =>
    simp only [List.map_cons, List.flatMap_cons, List.length_append, xt_cat, ih]
    split <;> rfl
theorem x_met {σ β : Type} {l : Launch} {z : MethodName} {cc : ByteArray} {nL : Nat} {rt : Option FieldType} {T : List Cond} {fr lo : Nat} {D : va_G} {cl : List vw_C} {tys : List (ClassId × FieldType)} {base : Nat} {wd : (Nat → Nat) → σ → va_W} {ct : σ → Nat × Nat} {gr : Nat → Bool}
    {av : List Value} {M : σ} {x : Option (σ × β)} {ov : β → Option Value} (hy : plainName z.cls = true) (hlen : (lg_sl av).length ≤ nL)
    (body : ∀ (p : Program) (e : Env) (R : Room) (s : State) (m : MethodId) (args : Array Value) (below : List Frame) (meth : Method) (c : Code) (a0 : Nat → Nat), xB p R s m args meth c cc nL z.cls (Cond.code z cc nL rt :: T) rt fr lo D cl tys base →
      Sn p l e R s m args below meth c nL D cl base wd ct gr a0 (ct M) (xfc ct) (xZ below args s D cl tys base wd ct gr a0 (ct M) ov) 0 [] (lv_args 0 av) M x)
    (r : σ × β) (hr : x = some r) : Ct l z (Cond.code z cc nL rt :: T) fr lo D cl tys base wd ct gr av M r.1 (ov r.2) := by
  intro aa
  refine Met.ofW (cc := cc) (maxL := nL) (ret := rt) hy rfl ?_
  intro p e s m args below meth c s₁ B hml hv
  obtain ⟨rfl, hK, hP, hD, hbase⟩ := hv
  have hown : s.vm.findClass z.cls = some m.cls := findClass_of_methodNamed B.named
  have hts := atoms_spec (ws := Cond.code z cc nL rt :: T) B.pre
  obtain ⟨h1, h2, h3⟩ := body p e (headSpec (Cond.code z cc nL rt :: T) { frames := fr, cells := (ct r.1).1 - (ct M).1, slots := (ct r.1).2 - (ct M).2, locals := lo }).room s m _ below meth c aa ⟨B.exec, B.bytes, hml, hown, hts, B.returns, B.notSynchronized, rfl, rfl, hK, hbase⟩ r hr
  have hl := lv_entry (av.map (xt aa)) (n := nL) (by rw [xl_len]; exact hlen)
  rw [lg_entry_eq]
  rw [xl_args] at hl
  have h4 := h3 aa s.heap [] _ xag.rf ⟨hP, hD, va_S.rf⟩ hl (Nat.le_refl _) (Nat.le_refl _) rfl rfl
  rw [Nat.sub_self, Nat.sub_self] at h4
  exact h4
/-- an int return of a narrow type -/
theorem W.zretN {p : Program} {l : Launch} {e : Env} {R : Room} {s : State} {m : MethodId} {args : Array Value} {below : List Frame} {meth : Method} {c : Code} {H : Heap} {locs : List Loc} {cells slots : Nat} {cc : ByteArray} {Qc : Array Value → State → Outcome → State → Prop} {free : Addr → Prop} {v v1 : Int32} {ty : FieldType} (hexec : p.tables.exec = Jvm.exec) (hb : c.code = cc) (hr : meth.sig.returnType = some ty) (hn : narrow ty (.int v) = .int v1)
    (hq : ∀ t : State, t.heap = H → s.WarmedH t.vm → Qc args s (.returned (some (.int v1))) t) (hf : ∀ q ∈ locs, free q.base)
    {pc : Nat} {ls : Array Slot} (hdg : decode cc pc = .ok (.ireturn, 1)) (hlocks : meth.locks = false) : W p l e R s m args below meth c H locs cells slots (MQ below Qc args s cells slots free) (F0 m pc ls [.int v]) := by
  intro T hT X
  have hlocks : meth.locks = false := hlocks
  obtain ⟨fs, hret, hrun, hended, hW, hframe⟩ := X.leave (v := some (.int v1)) (fun h => by rw [hr] at h; cases h)
  have hmeth' : T.vm.method? m = some meth := X.method'
  refine ⟨T.setFrames fs, ?_, .returned (some (.int v1)), hrun, hended, hq _ hT hW, locs, ⟨⟨_, rfl⟩, hW, hframe⟩, hf⟩
  jvm_step X.here [X.here.top, hexec, hb, hdg, hmeth', hr, hn]
  (try refine ⟨rfl, ?_⟩); (try refine ⟨rfl, ?_⟩)
  first | (intro acts; rw [hret _ acts rfl rfl rfl]) | rw [hret _ _ rfl rfl rfl]
  exact Steps.refl _
def nb (v : Int32) : Int32 := vp_nar .boolean v
section SNR
variable {p : Program} {l : Launch} {e : Env} {R : Room} {s : State} {m : MethodId} {args : Array Value} {below : List Frame} {meth : Method} {c : Code} {nL : Nat} {D : va_G} {cl : List vw_C} {base : Nat}
variable {σ α : Type} {wd : (Nat → Nat) → σ → va_W} {ct : σ → Nat × Nat} {gr : Nat → Bool} {a0 : Nat → Nat} {k0 : Nat × Nat} {fc : α → Nat × Nat} {Z : α → State → Prop}
variable {cc : ByteArray} {own : String} {Ts : List Cond} {rt : Option FieldType} {fr lo : Nat} {tys : List (ClassId × FieldType)} {pc pc1 : Nat} {st st1 rest : List Value} {lv lv1 : List (Nat × Value)} {M : σ} {x : Option α}
theorem s_iret {v : Int32}  (B : xB p R s m args meth c cc nL own Ts (some .int) fr lo D cl tys base) (hd : decode cc pc = .ok (.ireturn, 1)) : Sn p l e R s m args below meth c nL D cl base wd ct gr a0 k0 (xfc ct) (xZ below args s D cl tys base wd ct gr a0 k0 ovI) pc [.int v] lv M (some (M, (v))) := by
  intro r hr
  cases hr
  refine ⟨Nat.le_refl _, Nat.le_refl _, fun aa H locs ls ha hw hl g1 g2 g3 g4 => ?_⟩
  obtain ⟨hP, hD, hS⟩ := hw
  exact W.iret (v := v) B.1 B.2.1 B.2.2.2.2.2.1 (fun t ht hW => ⟨aa, ha, rfl, va_K.moved hW.alike B.2.2.2.2.2.2.2.2.2.1, by rw [ht]; exact hP, hD, hS.F ht⟩) hS.2.2 hd B.2.2.2.2.2.2.1
theorem s_lret {v : Int64}  (B : xB p R s m args meth c cc nL own Ts (some .long) fr lo D cl tys base) (hd : decode cc pc = .ok (.lreturn, 1)) : Sn p l e R s m args below meth c nL D cl base wd ct gr a0 k0 (xfc ct) (xZ below args s D cl tys base wd ct gr a0 k0 ovL) pc [.long v] lv M (some (M, (v))) := by
  intro r hr
  cases hr
  refine ⟨Nat.le_refl _, Nat.le_refl _, fun aa H locs ls ha hw hl g1 g2 g3 g4 => ?_⟩
  obtain ⟨hP, hD, hS⟩ := hw
  exact W.lret (v := v) B.1 B.2.1 B.2.2.2.2.2.1 (fun t ht hW => ⟨aa, ha, rfl, va_K.moved hW.alike B.2.2.2.2.2.2.2.2.2.1, by rw [ht]; exact hP, hD, hS.F ht⟩) hS.2.2 hd B.2.2.2.2.2.2.1
theorem s_vret   (B : xB p R s m args meth c cc nL own Ts none fr lo D cl tys base) (hd : decode cc pc = .ok (.return_, 1)) : Sn p l e R s m args below meth c nL D cl base wd ct gr a0 k0 (xfc ct) (xZ below args s D cl tys base wd ct gr a0 k0 ovU) pc [] lv M (some (M, ())) := by
  intro r hr
  cases hr
  refine ⟨Nat.le_refl _, Nat.le_refl _, fun aa H locs ls ha hw hl g1 g2 g3 g4 => ?_⟩
  obtain ⟨hP, hD, hS⟩ := hw
  exact W.vret B.1 B.2.1 B.2.2.2.2.2.1 (fun t ht hW => ⟨aa, ha, rfl, va_K.moved hW.alike B.2.2.2.2.2.2.2.2.2.1, by rw [ht]; exact hP, hD, hS.F ht⟩) hS.2.2 hd B.2.2.2.2.2.2.1
theorem s_zret {v : Int32}  (B : xB p R s m args meth c cc nL own Ts (some .boolean) fr lo D cl tys base) (hd : decode cc pc = .ok (.ireturn, 1)) : Sn p l e R s m args below meth c nL D cl base wd ct gr a0 k0 (xfc ct) (xZ below args s D cl tys base wd ct gr a0 k0 ovI) pc [.int v] lv M (some (M, (nb v))) := by
  intro r hr
  cases hr
  refine ⟨Nat.le_refl _, Nat.le_refl _, fun aa H locs ls ha hw hl g1 g2 g3 g4 => ?_⟩
  obtain ⟨hP, hD, hS⟩ := hw
  exact W.zretN (v := v) (v1 := nb v) B.1 B.2.1 B.2.2.2.2.2.1 (by rfl) (fun t ht hW => ⟨aa, ha, rfl, va_K.moved hW.alike B.2.2.2.2.2.2.2.2.2.1, by rw [ht]; exact hP, hD, hS.F ht⟩) hS.2.2 hd B.2.2.2.2.2.2.1
theorem s_zret0 {v : Int32} (hn : narrow .boolean (.int v) = .int v) (B : xB p R s m args meth c cc nL own Ts (some .boolean) fr lo D cl tys base) (hd : decode cc pc = .ok (.ireturn, 1)) : Sn p l e R s m args below meth c nL D cl base wd ct gr a0 k0 (xfc ct) (xZ below args s D cl tys base wd ct gr a0 k0 ovI) pc [.int v] lv M (some (M, (v))) := by
  intro r hr
  cases hr
  refine ⟨Nat.le_refl _, Nat.le_refl _, fun aa H locs ls ha hw hl g1 g2 g3 g4 => ?_⟩
  obtain ⟨hP, hD, hS⟩ := hw
  exact W.zretN (v := v) (v1 := v) B.1 B.2.1 B.2.2.2.2.2.1 hn (fun t ht hW => ⟨aa, ha, rfl, va_K.moved hW.alike B.2.2.2.2.2.2.2.2.2.1, by rw [ht]; exact hP, hD, hS.F ht⟩) hS.2.2 hd B.2.2.2.2.2.2.1
theorem s_aret {v : Nat} {ty : FieldType} (hty : (∃ n, ty = .object n) ∨ ∃ t, ty = .array t) (B : xB p R s m args meth c cc nL own Ts (some ty) fr lo D cl tys base) (hd : decode cc pc = .ok (.areturn, 1)) : Sn p l e R s m args below meth c nL D cl base wd ct gr a0 k0 (xfc ct) (xZ below args s D cl tys base wd ct gr a0 k0 ovR) pc [.ref v] lv M (some (M, (v))) := by
  intro r hr
  cases hr
  refine ⟨Nat.le_refl _, Nat.le_refl _, fun aa H locs ls ha hw hl g1 g2 g3 g4 => ?_⟩
  obtain ⟨hP, hD, hS⟩ := hw
  exact W.aret (v := .ref (aa v)) B.1 B.2.1 B.2.2.2.2.2.1 hty (Or.inr ⟨_, rfl⟩) (fun t ht hW => ⟨aa, ha, rfl, va_K.moved hW.alike B.2.2.2.2.2.2.2.2.2.1, by rw [ht]; exact hP, hD, hS.F ht⟩) hS.2.2 hd B.2.2.2.2.2.2.1
/-- the roads into a callee -/
def xRn (p : Program) (l : Launch) (e : Env) (R : Room) (s : State) (m : MethodId) (args : Array Value) (below : List Frame) (meth : Method) (c : Code) (nL base pc na : Nat) (z : MethodName) (wz : List Cond) (frz loz : Nat) (rc : Heap → List Value → Prop) : Prop :=
  ∀ (H : Heap) (locs : List Loc) (ls : Array Slot) (cells slots mc ms : Nat) (Pc : Array Value → State → Prop) (Qc : Array Value → State → Outcome → State → Prop) (av rest : List Value),
    Met l z wz { frames := frz, cells := mc, slots := ms, locals := loz } Pc Qc mc ms (fun q : Nat => base ≤ q) → FrameBlind Pc → rc H av → (∀ U : State, U.heap = H → s.WarmedH U.vm → Pc av.toArray U) → ls.size = nL → (rest.map fun v => v.category).sum ≤ 8 → av.length = na → cells + mc ≤ R.cells → slots + ms ≤ R.slots →
    va_Run p l e R s m args below meth c H locs cells slots mc ms (F0 m pc ls (av.reverse ++ rest)) rest (Qc av.toArray) (fun q : Nat => base ≤ q)
def rcV (s : State) (C : String) : Heap → List Value → Prop := fun H av => ∃ (b : Nat) (As : List Value), av = .ref b :: As ∧ ∃ cellB : Cell, H[b]? = some cellB ∧ cellB.vm.isStatics = false ∧ s.vm.findClass C = some cellB.cls
def rcS : Heap → List Value → Prop := fun _ _ => True
def rcI : Heap → List Value → Prop := fun _ av => ∃ (b : Nat) (As : List Value), av = .ref b :: As
theorem xrev (b : Value) (As rest : List Value) : (b :: As).reverse ++ rest = As.reverse ++ b :: rest := by simp
theorem lk_V {z : MethodName} {C : String} {index n maxL frz loz : Nat} {bytes : ByteArray} {ret : Option FieldType} {wz wz' : List Cond} (B : xB p R s m args meth c cc nL own Ts rt fr lo D cl tys base) (hd : decode cc pc = .ok (.invokevirtual index, 3)) (hG : GoodIn Ts (wsV own index C z wz)) (hw : wz = Cond.code z bytes maxL ret :: wz')
    (hd2 : z.cls = C ∧ z.cls ≠ "java/lang/invoke/MethodHandle" ∧ z.cls ≠ "java/lang/invoke/VarHandle" ∧ (parseMethodDescriptor z.desc).map (fun d => d.parameters.length) = some n) (hF : frz + 1 ≤ fr) (hL : 8 + (maxL + 11) + loz ≤ lo) :
    xRn p l e R s m args below meth c nL base pc (n + 1) z wz frz loz (rcV s C) := by
  intro H locs ls cells slots mc ms Pc Qc av rest hM hbl hrc hpre hsz hsum hna hc hs
  obtain ⟨b, As, rfl, hcell⟩ := hrc
  exact va_runV (As := As) (rest := rest) (b := b) (n := n) ⟨B.1, B.2.1, B.2.2.1, B.2.2.2.1, B.2.2.2.2.1⟩ hM (cwV n B.2.2.2.2.1 hG hw rfl rfl hd2 ⟨by rw [B.2.2.2.2.2.2.2.1]; exact hF, by rw [B.2.2.2.2.2.2.2.2.1]; exact hL⟩) ⟨hbl, hcell, hpre⟩ rfl (by simpa using hna) hsz (xrev _ _ _) (lv_room hsum) hd ⟨hc, hs⟩
theorem lk_S {z : MethodName} {index n maxL frz loz : Nat} {bytes : ByteArray} {ret : Option FieldType} {wz wz' : List Cond} (B : xB p R s m args meth c cc nL own Ts rt fr lo D cl tys base) (hd : decode cc pc = .ok (.invokestatic index, 3)) (hG : GoodIn Ts wz) (hst : (Cond.static z) ∈ Ts) (hin : (Cond.initialized z.cls) ∈ Ts) (hlk : (Cond.methodLink own index z) ∈ Ts) (hw : wz = Cond.code z bytes maxL ret :: wz')
    (hd2 : z.cls ≠ "java/lang/invoke/MethodHandle" ∧ z.cls ≠ "java/lang/invoke/VarHandle" ∧ (parseMethodDescriptor z.desc).map (fun d => d.parameters.length) = some n) (hF : frz + 1 ≤ fr) (hL : 8 + (maxL + 11) + loz ≤ lo) :
    xRn p l e R s m args below meth c nL base pc n z wz frz loz rcS := by
  intro H locs ls cells slots mc ms Pc Qc av rest hM hbl hrc hpre hsz hsum hna hc hs
  have ht := B.2.2.2.2.1
  exact va_runS (As := av) (rest := rest) (n := n) ⟨B.1, B.2.1, B.2.2.1, B.2.2.2.1, ht⟩ hM ⟨callB_of n ht hG hw rfl rfl (ht _ hin) (ht _ hlk) hd2 ⟨by rw [B.2.2.2.2.2.2.2.1]; exact hF, by rw [B.2.2.2.2.2.2.2.2.1]; exact hL⟩, ht _ hst⟩ ⟨hbl, hpre⟩ rfl hna hsz rfl (lv_room hsum) hd ⟨hc, hs⟩
theorem lk_I {z : MethodName} {index n maxL frz loz : Nat} {bytes : ByteArray} {wz wz' : List Cond} (B : xB p R s m args meth c cc nL own Ts rt fr lo D cl tys base) (hd : decode cc pc = .ok (.invokespecial index, 3)) (hG : GoodIn Ts wz) (hst : (Cond.instanceMethod z) ∈ Ts) (hin : (Cond.initialized z.cls) ∈ Ts) (hlk : (Cond.methodLink own index z) ∈ Ts) (hw : wz = Cond.code z bytes maxL none :: wz') (hi : z.name = "<init>")
    (hd2 : z.cls ≠ "java/lang/invoke/MethodHandle" ∧ z.cls ≠ "java/lang/invoke/VarHandle" ∧ (parseMethodDescriptor z.desc).map (fun d => d.parameters.length) = some n) (hF : frz + 1 ≤ fr) (hL : 8 + (maxL + 11) + loz ≤ lo) :
    xRn p l e R s m args below meth c nL base pc (n + 1) z wz frz loz rcI := by
  intro H locs ls cells slots mc ms Pc Qc av rest hM hbl hrc hpre hsz hsum hna hc hs
  obtain ⟨b, As, rfl⟩ := hrc
  have ht := B.2.2.2.2.1
  exact va_runI (As := As) (rest := rest) (n := n) (b := b) ⟨B.1, B.2.1, B.2.2.1, B.2.2.2.1, ht⟩ hM ⟨callB_of n ht hG hw rfl rfl (ht _ hin) (ht _ hlk) hd2 ⟨by rw [B.2.2.2.2.2.2.2.1]; exact hF, by rw [B.2.2.2.2.2.2.2.2.1]; exact hL⟩, hi, ht _ hst⟩ ⟨hbl, hpre⟩ rfl (by simpa using hna) hsz (xrev _ _ _) (lv_room hsum) hd ⟨hc, hs⟩
theorem lk_IN {z : MethodName} {host : String} {index n maxL frz loz : Nat} {bytes : ByteArray} {wz wz' : List Cond} (B : xB p R s m args meth c cc nL own Ts rt fr lo D cl tys base) (hd : decode cc pc = .ok (.invokespecial index, 3)) (hG : GoodIn Ts wz) (hst : (Cond.instanceMethod z) ∈ Ts) (hin : (Cond.initialized z.cls) ∈ Ts) (hlk : (Cond.methodLinkNest own index z host) ∈ Ts) (hw : wz = Cond.code z bytes maxL none :: wz') (hi : z.name = "<init>")
    (hd2 : z.cls ≠ "java/lang/invoke/MethodHandle" ∧ z.cls ≠ "java/lang/invoke/VarHandle" ∧ (parseMethodDescriptor z.desc).map (fun d => d.parameters.length) = some n) (hF : frz + 1 ≤ fr) (hL : 8 + (maxL + 11) + loz ≤ lo) :
    xRn p l e R s m args below meth c nL base pc (n + 1) z wz frz loz rcI := by
  intro H locs ls cells slots mc ms Pc Qc av rest hM hbl hrc hpre hsz hsum hna hc hs
  obtain ⟨b, As, rfl⟩ := hrc
  have ht := B.2.2.2.2.1
  exact va_runIN (As := As) (rest := rest) (n := n) (b := b) ⟨B.1, B.2.1, B.2.2.1, B.2.2.2.1, ht⟩ hM ⟨va_cnB n ht hG hw rfl rfl (va_Nw.of rfl (ht _ hlk)) (ht _ hin) hd2 ⟨by rw [B.2.2.2.2.2.2.2.1]; exact hF, by rw [B.2.2.2.2.2.2.2.2.1]; exact hL⟩, hi, ht _ hst⟩ ⟨hbl, hpre⟩ rfl (by simpa using hna) hsz (xrev _ _ _) (lv_room hsum) hd ⟨hc, hs⟩
theorem xcall {v : Option Value} {aa : Nat → Nat} {H : Heap} {locs : List Loc} {cells slots mc ms : Nat} {Q : State → Prop} {ls : Array Slot} {av rest0 st0 : List Value} (hr : va_Run p l e R s m args below meth c H locs cells slots mc ms (F0 m pc ls st0) rest0 (xQc D cl tys base wd gr aa M v av.toArray) (fun q : Nat => base ≤ q)) (hS : va_S (fun q : Nat => base ≤ q) s.heap H locs)
    (kk : ∀ (bb : Nat → Nat) (H1 : Heap) (locs1 : List Loc), xag gr aa bb → va_P D cl (wd bb M) H1 → va_D (fun q : Nat => base ≤ q) (wd bb M) → va_S (fun q : Nat => base ≤ q) s.heap H1 locs1 → W p l e R s m args below meth c H1 locs1 (cells + mc) (slots + ms) Q (F0 m (pc + 3) ls ((v.map (xt bb)).toList ++ rest0))) : W p l e R s m args below meth c H locs cells slots Q (F0 m pc ls st0) := by
  intro T hT X
  obtain ⟨v1, st₀, t, T', L, h0, X', hL, e1, e2, ⟨bb, hag, hv, hK, hP, hD, hz, hk⟩, st⟩ := hr T hT X
  cases hv
  rw [h0] at hz hk
  obtain ⟨t2, a1, b1⟩ := kk bb T'.heap (locs ++ L) hag (by rw [e1]; exact hP) hD
    ⟨Nat.le_trans hS.1 (by rw [e1]; exact hz), fun q h1 h2 => by rw [e1, hk q (Nat.lt_of_lt_of_le h1 hS.1) h2]; exact hS.2.1 q h1 h2, fun q hq => by
      rcases List.mem_append.mp hq with h | h
      · exact hS.2.2 q h
      · exact hL q h⟩ T' rfl X'
  exact ⟨t2, st t2 a1, b1⟩
/-- a call in a model -/
def cal {σ β α : Type} (ct : σ → Nat × Nat) (M : σ) (y : Option (σ × β)) (k : σ × β → Option α) : Option α := y.bind fun r => if (ct M).1 ≤ (ct r.1).1 ∧ (ct M).2 ≤ (ct r.1).2 then k r else none
theorem cal_some {σ β α : Type} {ct : σ → Nat × Nat} {M : σ} {y : Option (σ × β)} {k : σ × β → Option α} {r : σ × β} (h : y = some r) (h1 : (ct M).1 ≤ (ct r.1).1) (h2 : (ct M).2 ≤ (ct r.1).2) : cal ct M y k = k r := by
  subst h
  show (if _ then k r else none) = k r
  rw [if_pos ⟨h1, h2⟩]
def x_g0 (_ : Nat) : Bool := false
theorem s_callG {β : Type} {gr1 : Nat → Bool} {z : MethodName} {wz : List Cond} {frz loz na : Nat} {rc : Heap → List Value → Prop} {av : List Value} {ov : β → Option Value} {y : Option (σ × β)} {k : σ × β → Option α} (B : xB p R s m args meth c cc nL own Ts rt fr lo D cl tys base) (hR : xRn p l e R s m args below meth c nL base pc na z wz frz loz rc) (hst : st = av.reverse ++ rest)
    (hrc : ∀ (aa : Nat → Nat) (H : Heap), va_P D cl (wd aa M) H → rc H (av.map (xt aa))) (hsub : ∀ k, gr k = false → gr1 k = false) (hn1 : rest.all (xng gr1) = true) (hn2 : lv.all (fun q => xng gr1 q.2) = true) (hsum : (rest.map fun v => v.category).sum ≤ 8) (hna : av.length = na)
    (hC : ∀ r0, y = some r0 → Ct l z wz frz loz D cl tys base wd ct gr1 av M r0.1 (ov r0.2)) (kk : ∀ r0, y = some r0 → Sn p l e R s m args below meth c nL D cl base wd ct gr a0 k0 fc Z (pc + 3) ((ov r0.2).toList ++ rest) lv r0.1 (k r0)) :
    Sn p l e R s m args below meth c nL D cl base wd ct gr a0 k0 fc Z pc st lv M (cal ct M y k) := by
  intro r hr
  cases hy : y with
  | none => rw [hy] at hr; cases hr
  | some r0 =>
    rw [hy] at hr
    have hr : (if (ct M).1 ≤ (ct r0.1).1 ∧ (ct M).2 ≤ (ct r0.1).2 then k r0 else none) = some r := hr
    by_cases hle : (ct M).1 ≤ (ct r0.1).1 ∧ (ct M).2 ≤ (ct r0.1).2
    · rw [if_pos hle] at hr
      obtain ⟨h1, h2, h3⟩ := kk r0 hy r hr
      refine ⟨Nat.le_trans hle.1 h1, Nat.le_trans hle.2 h2, fun aa H locs ls ha hw hl g1 g2 g3 g4 => ?_⟩
      obtain ⟨hP, hD, hS⟩ := hw
      have hM := hC r0 hy aa
      subst hst
      rw [List.map_append, List.map_reverse]
      refine xcall (v := ov r0.2) (hR H locs ls _ _ _ _ _ _ (av.map (xt aa)) (rest.map (xt aa)) hM xPc.blind (hrc aa H hP) (fun U hU hWm => ⟨rfl, va_K.moved hWm.alike B.2.2.2.2.2.2.2.2.2.1, by rw [hU]; exact hP, hD, by rw [hU]; exact Nat.le_trans B.2.2.2.2.2.2.2.2.2.2 hS.1⟩) hl.1 (by rw [List.map_map]; simpa [Function.comp_def, xt_cat] using hsum) (by rw [List.length_map]; exact hna) (by omega) (by omega)) hS ?_
      intro bb H1 locs1 hag hP1 hD1 hS1
      have h4 := h3 bb H1 locs1 ls (ha.tr (fun k hk => hag k (hsub k hk))) ⟨hP1, hD1, hS1⟩ (by rw [xng_lv hag hn2]; exact hl) (Nat.le_trans g1 hle.1) (Nat.le_trans g2 hle.2) g3 g4
      rw [List.map_append, xng_st hag hn1] at h4
      refine W.cs (cells' := (ct r0.1).1 - k0.1) (slots' := (ct r0.1).2 - k0.2) (by omega) (by omega) ?_
      have e9 : ((ov r0.2).map (xt bb)).toList = (ov r0.2).toList.map (xt bb) := by cases ov r0.2 <;> rfl
      rw [e9]
      exact h4
    · rw [if_neg hle] at hr
      cases hr
theorem s_callI {gr1 : Nat → Bool} {z : MethodName} {wz : List Cond} {frz loz na : Nat} {rc : Heap → List Value → Prop} {av : List Value} {y : Option (σ × Int32)} {k : σ × Int32 → Option α} (B : xB p R s m args meth c cc nL own Ts rt fr lo D cl tys base) (hR : xRn p l e R s m args below meth c nL base pc na z wz frz loz rc) (hst : st = av.reverse ++ rest)
    (hrc : ∀ (aa : Nat → Nat) (H : Heap), va_P D cl (wd aa M) H → rc H (av.map (xt aa))) (hsub : ∀ k, gr k = false → gr1 k = false) (hn1 : rest.all (xng gr1) = true) (hn2 : lv.all (fun q => xng gr1 q.2) = true) (hsum : (rest.map fun v => v.category).sum ≤ 8) (hna : av.length = na)
    (hC : ∀ r0, y = some r0 → Ct l z wz frz loz D cl tys base wd ct gr1 av M r0.1 (ovI r0.2)) (kk : ∀ r0, y = some r0 → Sn p l e R s m args below meth c nL D cl base wd ct gr a0 k0 fc Z (pc + 3) (.int r0.2 :: rest) lv r0.1 (k r0)) :
    Sn p l e R s m args below meth c nL D cl base wd ct gr a0 k0 fc Z pc st lv M (cal ct M y k) := s_callG B hR hst hrc hsub hn1 hn2 hsum hna hC kk
theorem s_callL {gr1 : Nat → Bool} {z : MethodName} {wz : List Cond} {frz loz na : Nat} {rc : Heap → List Value → Prop} {av : List Value} {y : Option (σ × Int64)} {k : σ × Int64 → Option α} (B : xB p R s m args meth c cc nL own Ts rt fr lo D cl tys base) (hR : xRn p l e R s m args below meth c nL base pc na z wz frz loz rc) (hst : st = av.reverse ++ rest)
    (hrc : ∀ (aa : Nat → Nat) (H : Heap), va_P D cl (wd aa M) H → rc H (av.map (xt aa))) (hsub : ∀ k, gr k = false → gr1 k = false) (hn1 : rest.all (xng gr1) = true) (hn2 : lv.all (fun q => xng gr1 q.2) = true) (hsum : (rest.map fun v => v.category).sum ≤ 8) (hna : av.length = na)
    (hC : ∀ r0, y = some r0 → Ct l z wz frz loz D cl tys base wd ct gr1 av M r0.1 (ovL r0.2)) (kk : ∀ r0, y = some r0 → Sn p l e R s m args below meth c nL D cl base wd ct gr a0 k0 fc Z (pc + 3) (.long r0.2 :: rest) lv r0.1 (k r0)) :
    Sn p l e R s m args below meth c nL D cl base wd ct gr a0 k0 fc Z pc st lv M (cal ct M y k) := s_callG B hR hst hrc hsub hn1 hn2 hsum hna hC kk
theorem s_callR {gr1 : Nat → Bool} {z : MethodName} {wz : List Cond} {frz loz na : Nat} {rc : Heap → List Value → Prop} {av : List Value} {y : Option (σ × Nat)} {k : σ × Nat → Option α} (B : xB p R s m args meth c cc nL own Ts rt fr lo D cl tys base) (hR : xRn p l e R s m args below meth c nL base pc na z wz frz loz rc) (hst : st = av.reverse ++ rest)
    (hrc : ∀ (aa : Nat → Nat) (H : Heap), va_P D cl (wd aa M) H → rc H (av.map (xt aa))) (hsub : ∀ k, gr k = false → gr1 k = false) (hn1 : rest.all (xng gr1) = true) (hn2 : lv.all (fun q => xng gr1 q.2) = true) (hsum : (rest.map fun v => v.category).sum ≤ 8) (hna : av.length = na)
    (hC : ∀ r0, y = some r0 → Ct l z wz frz loz D cl tys base wd ct gr1 av M r0.1 (ovR r0.2)) (kk : ∀ r0, y = some r0 → Sn p l e R s m args below meth c nL D cl base wd ct gr a0 k0 fc Z (pc + 3) (.ref r0.2 :: rest) lv r0.1 (k r0)) :
    Sn p l e R s m args below meth c nL D cl base wd ct gr a0 k0 fc Z pc st lv M (cal ct M y k) := s_callG B hR hst hrc hsub hn1 hn2 hsum hna hC kk
theorem s_callU {gr1 : Nat → Bool} {z : MethodName} {wz : List Cond} {frz loz na : Nat} {rc : Heap → List Value → Prop} {av : List Value} {y : Option (σ × Unit)} {k : σ × Unit → Option α} (B : xB p R s m args meth c cc nL own Ts rt fr lo D cl tys base) (hR : xRn p l e R s m args below meth c nL base pc na z wz frz loz rc) (hst : st = av.reverse ++ rest)
    (hrc : ∀ (aa : Nat → Nat) (H : Heap), va_P D cl (wd aa M) H → rc H (av.map (xt aa))) (hsub : ∀ k, gr k = false → gr1 k = false) (hn1 : rest.all (xng gr1) = true) (hn2 : lv.all (fun q => xng gr1 q.2) = true) (hsum : (rest.map fun v => v.category).sum ≤ 8) (hna : av.length = na)
    (hC : ∀ r0, y = some r0 → Ct l z wz frz loz D cl tys base wd ct gr1 av M r0.1 (ovU r0.2)) (kk : ∀ r0, y = some r0 → Sn p l e R s m args below meth c nL D cl base wd ct gr a0 k0 fc Z (pc + 3) (rest) lv r0.1 (k r0)) :
    Sn p l e R s m args below meth c nL D cl base wd ct gr a0 k0 fc Z pc st lv M (cal ct M y k) := s_callG B hR hst hrc hsub hn1 hn2 hsum hna hC kk
end SNR
