/-! methods that throw: a new exception, out of checkSlot and checkRange, through the public methods -/
abbrev x_IO : String := "java/lang/IndexOutOfBoundsException"
abbrev x_IA : String := "java/lang/IllegalArgumentException"
def x_up : List String := ["java/lang/RuntimeException", "java/lang/Exception"]
def x_sw : List Cond := [.laysStatic "java/lang/Throwable" "UNASSIGNED_STACK" "[Ljava/lang/StackTraceElement;", .laysStatic "java/lang/Throwable" "SUPPRESSED_SENTINEL" "Ljava/util/List;", .isRef (.static "java/lang/Throwable" "UNASSIGNED_STACK" "[Ljava/lang/StackTraceElement;"), .isRef (.static "java/lang/Throwable" "SUPPRESSED_SENTINEL" "Ljava/util/List;")]
def x_dw : List Cond := [.declares ⟨"java/lang/RuntimeException", "<init>", "()V"⟩, .declares ⟨"java/lang/Exception", "<init>", "()V"⟩, .declares ⟨"java/lang/Throwable", "<init>", "()V"⟩, .castable x_IO x_IO, .castable x_IA x_IA]
set_option maxRecDepth 100000 in
theorem x_io_atoms : ∀ a ∈ Bundle.ownAtoms0 R_D 158 x_IO x_up, a ∈ x_T ∨ a ∈ x_sw ∨ a ∈ x_dw := by decide +kernel
set_option maxRecDepth 100000 in
theorem x_ia_atoms : ∀ a ∈ Bundle.ownAtoms0 R_D 161 x_IA x_up, a ∈ x_T ∨ a ∈ x_sw ∨ a ∈ x_dw := by decide +kernel
/-- a static that holds a reference or null, in a cell below base -/
def x_ho1 (nm ds : String) (base : Nat) (U : State) : Prop := ∃ (c : ClassId) (k : Class) (i : Nat) (f : Field) (a : Nat) (cell : Cell) (v : Value), U.vm.findClass "java/lang/Throwable" = some c ∧ U.fieldFound? "java/lang/Throwable" nm ds = some (c, k, i, f) ∧ f.isStatic = true ∧ k.statics = some a ∧ a < base ∧ U.heap[a]? = some cell ∧ cell.vm.isStatics = true ∧ cell.cls = c ∧ f.slot < cell.slots.size ∧ k.staticTypes[f.slot]? = some f.type ∧ cell.slots[f.slot]? = some v ∧ (v = .null ∨ ∃ b, v = .ref b)
def x_na (U : State) : Prop := ∃ c1 c2 : ClassId, U.vm.findClass x_IA = some c1 ∧ U.vm.findClass x_IO = some c2 ∧ U.vm.assignable c1 c2 = false
def x_ho (base : Nat) (U : State) : Prop := x_ho1 "UNASSIGNED_STACK" "[Ljava/lang/StackTraceElement;" base U ∧ x_ho1 "SUPPRESSED_SENTINEL" "Ljava/util/List;" base U ∧ (∀ w ∈ x_dw, va_Nw w U) ∧ x_na U
theorem x_ho1.moved {nm ds : String} {base : Nat} {u U : State} (h : x_ho1 nm ds base u) (hvm : u.vm.Alike U.vm) (hh : ∀ q : Nat, q < base → U.heap[q]? = u.heap[q]?) : x_ho1 nm ds base U := by
  obtain ⟨c, k, i, f, a, cell, v, h1, h2, h3, h4, h5, h6, h7, h8, h9, h10, h11, h12⟩ := h
  obtain ⟨k', hi', hek⟩ := State.fieldFound?_setVm (s := u) hvm h2
  exact ⟨c, k', i, f, a, cell, v, by rw [hvm.findClass]; exact h1, by simpa only [State.fieldFound?, State.vm_setVm] using hi', h3, by rw [hek]; exact h4, h5, by rw [hh a h5]; exact h6, h7, h8, h9, by rw [hek]; exact h10, h11, h12⟩
theorem x_ho.moved {base : Nat} {u U : State} (h : x_ho base u) (hvm : u.vm.Alike U.vm) (hh : ∀ q : Nat, q < base → U.heap[q]? = u.heap[q]?) : x_ho base U := by
  refine ⟨h.1.moved hvm hh, h.2.1.moved hvm hh, fun w hw => ?_, by
    obtain ⟨c1, c2, n1, n2, n3⟩ := h.2.2.2
    exact ⟨c1, c2, by rw [hvm.findClass]; exact n1, by rw [hvm.findClass]; exact n2, by rw [hvm.assignable]; exact n3⟩⟩
  have h1 := h.2.2.1 w hw
  simp only [x_dw, List.mem_cons, List.not_mem_nil, or_false] at hw
  rcases hw with rfl | rfl | rfl | rfl | rfl
  · exact va_tabs rfl (rfl : (u.setVm U.vm).vm = U.vm) (by rw [Cond.declares_setVm hvm]; exact h1)
  · exact va_tabs rfl (rfl : (u.setVm U.vm).vm = U.vm) (by rw [Cond.declares_setVm hvm]; exact h1)
  · exact va_tabs rfl (rfl : (u.setVm U.vm).vm = U.vm) (by rw [Cond.declares_setVm hvm]; exact h1)
  · exact va_tabs rfl (rfl : (u.setVm U.vm).vm = U.vm) (by rw [Cond.castable_setVm hvm]; exact h1)
  · exact va_tabs rfl (rfl : (u.setVm U.vm).vm = U.vm) (by rw [Cond.castable_setVm hvm]; exact h1)
theorem x_ho.dword {base : Nat} {U : State} {args : Array Value} (h : x_ho base U) : ∀ a ∈ x_dw, a.before args U = true := by
  intro a ha
  have h1 := h.2.2.1 a ha
  simp only [x_dw, List.mem_cons, List.not_mem_nil, or_false] at ha
  rcases ha with rfl | rfl | rfl | rfl | rfl <;> exact va_Nw.use rfl h1
theorem x_ho1.words {nm ds : String} {base : Nat} {U : State} {args : Array Value} (h : x_ho1 nm ds base U) : (Cond.laysStatic "java/lang/Throwable" nm ds).before args U = true ∧ (Cond.isRef (.static "java/lang/Throwable" nm ds)).before args U = true := by
  obtain ⟨c, k, i, f, a, cell, v, h1, h2, h3, h4, h5, h6, h7, h8, h9, h10, h11, h12⟩ := h
  refine ⟨Cond.laysStatic_of h1 h2 h3 h4 h6 h7 h8 h9 h10, ?_⟩
  have he : (Term.static "java/lang/Throwable" nm ds).eval args U none [] U = some v := by
    simp [Term.eval, State.fieldNamed?, h2, h3, h4, h6, h7, h11]
  simp only [Cond.before, Cond.holds, Cond.value, he]
  rcases h12 with e | ⟨b, e⟩ <;> simp [e]
theorem x_ho.word {base : Nat} {U : State} {args : Array Value} (h : x_ho base U) : ∀ a ∈ x_sw, a.before args U = true := by
  intro a ha
  have h1 := x_ho1.words (args := args) h.1
  have h2 := x_ho1.words (args := args) h.2.1
  simp only [x_sw, List.mem_cons, List.not_mem_nil, or_false] at ha
  rcases ha with rfl | rfl | rfl | rfl
  · exact h1.1
  · exact h2.1
  · exact h1.2
  · exact h2.2
def xQt {σ : Type} (E : String) (D : va_G) (cl : List vw_C) (tys : List (ClassId × FieldType)) (base : Nat) (wd : (Nat → Nat) → σ → va_W) (gr : Nat → Bool) (aa : Nat → Nat) (M : σ) : Array Value → State → Outcome → State → Prop := fun _ st o t =>
  ∃ (x : Nat) (bb : Nat → Nat), o = .threw x ∧ st.WarmedH t.vm ∧ (∃ L, st.sameButNew ({ t with vm := st.vm } : State) L 1 6 ∧ ∀ q ∈ L, base ≤ q.base) ∧ xag gr aa bb ∧ va_K D cl tys t ∧ va_P D cl (wd bb M) t.heap ∧ va_D (fun q : Nat => base ≤ q) (wd bb M) ∧ va_F (fun q : Nat => base ≤ q) st t ∧ ∃ ce : Cell, t.heap[x]? = some ce ∧ ce.vm.isStatics = false ∧ t.vm.findClass E = some ce.cls
def CtT {σ : Type} (E : String) (l : Launch) (z : MethodName) (ws : List Cond) (fr lo : Nat) (D : va_G) (cl : List vw_C) (tys : List (ClassId × FieldType)) (base : Nat) (wd : (Nat → Nat) → σ → va_W) (gr : Nat → Bool) (av : List Value) (M : σ) : Prop :=
  ∀ aa : Nat → Nat, MetFree l z (headSpec ws { frames := fr, cells := 1, slots := 6, locals := lo }) (fun a U => xPc D cl tys base wd aa av M a U ∧ x_ho base U) (fun _ _ _ _ _ => True) (xQt E D cl tys base wd gr aa M)
/-- the machine behind a callee that threw -/
theorem x_thr {p : Program} {l : Launch} {e : Env} {R : Room} {s : State} {m : MethodId} {args : Array Value} {below : List Frame} {meth : Method} {c : Code} {U : State} {locs : List Loc} {cells slots base : Nat} (X : Stand p l e R s m args below meth c U locs cells slots)
    {z : MethodName} {wz : List Cond} {frz loz : Nat} {P : Array Value → State → Prop} {Q : Array Value → State → Outcome → State → Prop} (hM : MetFree l z (headSpec wz { frames := frz, cells := 1, slots := 6, locals := loz }) P (fun _ _ _ _ _ => True) Q)
    {g : JFrame} (hg : g.method = m) (hsize : g.locals.size = c.maxLocals) {ig : Instr} {len : Nat} (hdg : decode c.code g.pc = .ok (ig, len)) {mk : MethodId} {a : Array Value} (hn : U.methodNamed? z = some mk) {bytes : ByteArray} {maxL : Nat} {ret : Option FieldType} (hcode : (Cond.code z bytes maxL ret).before a U = true)
    (hpre : ∀ w ∈ wz, w.before a U = true) (hinit : (Cond.initialized z.cls).before a U = true) (hframes : frz + 1 ≤ R.frames) (hlocals : 2 * g.monitorRoom + (g.stack.map fun v => v.category).sum + (maxL + 11) + loz ≤ R.locals) (hcells : cells + 1 ≤ R.cells) (hslots : slots + 6 ≤ R.slots)
    (hP : P a (U.calling g mk a)) (hQ : ∀ o t, Q a (U.calling g mk a) o t → ∃ x, o = .threw x ∧ (U.calling g mk a).WarmedH t.vm ∧ ∃ L, (U.calling g mk a).sameButNew ({ t with vm := (U.calling g mk a).vm } : State) L 1 6 ∧ ∀ q ∈ L, base ≤ q.base) :
    ∃ (x : Nat) (t T' : State) (L : List Loc), Q a (U.calling g mk a) (.threw x) t ∧ Stand p l e R s m args below meth c T' (locs ++ L) (cells + 1) (slots + 6) ∧ T'.heap = t.heap ∧ T'.vm = t.vm ∧ (∀ q ∈ L, base ≤ q.base) ∧ ∀ acts, Steps p.tables e below (doInvoke e (U.setTop g) acts mk a).1 ((T'.setTop g).pushFrame (.throwing x)) := by
  obtain ⟨methY, cY, hmY, hcY, -, hlY, -⟩ := Cond.code_spec hn hcode
  obtain ⟨kY, hkY, -⟩ := className_of_methodNamed hn
  have hinitY : kY.init = .initialized := Cond.initialized_spec (findClass_of_methodNamed hn) hkY hinit
  have h : At U g.method c below := by rw [hg]; exact X.here
  have happ : (headSpec wz { frames := frz, cells := 1, slots := 6, locals := loz }).appliesLoose z e.platform (U.calling g mk a) = true :=
    Spec.appliesLoose_calling (g := g) h hdg hn hkY hinitY
      (X.room_calling (g := g) (R' := { frames := frz, cells := 1, slots := 6, locals := loz }) hsize hmY hcY hframes (by rw [hlY]; exact hlocals) hcells hslots) (atoms_intro hpre)
  obtain ⟨mid, hmid⟩ := h.above
  have hfr : (U.setTop g).frames = (.java g :: mid) ++ below := by rw [State.frames_setTop' g h.top, hmid]; rfl
  obtain ⟨o, s₂, hsteps, -, hend, hq⟩ := Steps.callFree hM p X.admits X.cas X.clock (acts := []) hfr happ hP trivial
  have hq' : Q a (U.calling g mk a) o s₂ := hq
  rw [State.frames_setTop' g h.top] at hend
  obtain ⟨x, rfl, hW, L, hsame, hL⟩ := hQ o s₂ hq'
  rw [X.tail] at hend
  obtain ⟨T', X', hW', hB, ht⟩ := X.outOfThrown hg hend hW hsame
  have hh : s₂.heap = T'.heap := by rw [ht]; exact Stand.throwing_heap T' g x
  have hv : s₂.vm = T'.vm := by rw [ht]; exact Stand.throwing_vm T' g x
  refine ⟨x, s₂, T', L, hq', X', hh.symm, hv.symm, hL, fun acts => ?_⟩
  rw [← ht, doInvoke_state]
  exact hsteps

/-- a new exception, thrown: from the frame behind 'new' and 'dup', with nothing written yet -/
theorem x_newT {p : Program} {l : Launch} {e : Env} {R : Room} {s : State} {m : MethodId} {args : Array Value} {below : List Frame} {meth : Method} {c : Code} {nL base : Nat} {cc : ByteArray} {w0 : Cond} {rt : Option FieldType} {fr lo : Nat} {D : va_G} {g : Nat → ClassId} {a0 : Nat → Nat} {M : MS} {gr : Nat → Bool}
    (B : xB p R s m args meth c cc nL R_D (w0 :: x_T) rt fr lo D x_cl (xty g) base) (htr : l.stackTraces = false) (hho : x_ho base s) (hex : c.exceptionTable.toList = []) {E : String} {ic ix : Nat} (hE : Bundle.fit E = true) (hat : ∀ a ∈ Bundle.ownAtoms0 R_D ic E x_up, a ∈ x_T ∨ a ∈ x_sw ∨ a ∈ x_dw)
    (hlk : Cond.classLink R_D ix E ∈ x_T) (hin : Cond.instantiable E 6 ∈ x_T) (hini : Cond.initialized E ∈ x_T) {pc : Nat} {ls : Array Slot} (hl : ls.size = nL) (hd : decode cc pc = .ok (.new ix, 3)) (hd3 : decode cc (pc + 3) = .ok (.dup, 1)) (hd4 : decode cc (pc + 4) = .ok (.invokespecial ic, 3)) (hd7 : decode cc (pc + 7) = .ok (.athrow, 1))
    (hP : va_P D x_cl (xwd g a0 M) s.heap) (hD : va_D (fun q : Nat => base ≤ q) (xwd g a0 M)) (hF : 5 < fr) (hL : 90 ≤ lo) (hc1 : 1 ≤ R.cells) (hs6 : 6 ≤ R.slots) :
    W p l e R s m args below meth c s.heap [] 0 0 (fun t => ∃ o, t.status = .running ∧ Ended t below o ∧ xQt E D x_cl (xty g) base (xwd g) gr a0 M args s o t) (F0 m pc ls []) := by
  have hts := B.2.2.2.2.1
  have hT : ∀ w ∈ x_T, w.before args s = true := fun w hw => hts w (List.mem_cons_of_mem _ hw)
  refine W.newc (C := E) (n := 6) B.1 B.2.1 B.2.2.2.1 (hT _ hlk) (hT _ hin) (hT _ hini) rfl hd (by omega) (by omega) (fun cC kC k1 k2 k3 k4 => ?_)
  refine lv_dup B.1 B.2.1 hd3 rfl ?_
  intro T hTh X
  have hnew : T.heap[s.heap.size]? = some (freshCell cC kC) := by rw [hTh]; simp [freshCell]
  have htr2 : e.platform.stackTraces = false := by rw [Example.NoTraceControls.admits_follows X.admits]; exact htr
  obtain ⟨U, st, h1, h2, h3, h4, ce, h5, h6⟩ := X.ctorThrow0 B.1 htr2 (own := R_D) (cls := E) (names := x_up) (ic := ic) B.2.2.2.1 hE (by decide) (fun a ha => by
      rcases hat a ha with h | h | h
      · exact hT a h
      · exact hho.word a h
      · exact hho.dword a h) (fun x hx => by cases hx) (a := s.heap.size) k1 k2 hnew (Nat.le_refl _) (g := F0 m (pc + 3 + 1) ls [.ref s.heap.size, .ref s.heap.size]) rfl (by rw [B.2.2.1]; exact hl) rfl rfl (rest := []) rfl (by rw [B.2.1]; exact hd4) (by rw [B.2.1]; exact hd7) (by rw [hex]; intro x hx; cases hx) (by rw [B.2.2.2.2.2.2.2.1]; exact hF) (by rw [B.2.2.2.2.2.2.2.2.1]; show 2 * 0 + 1 + _ ≤ lo; simp [x_up]; omega) B.2.2.2.2.2.2.1
  refine ⟨U, st, .threw s.heap.size, h1, h2, s.heap.size, a0, rfl, h3, ⟨[], h4, fun q hq => by cases hq⟩, xag.rf, va_K.moved h3.alike B.2.2.2.2.2.2.2.2.2.1, hP.kept (fun k q hk => ?_), hD, ⟨h4.2.1, fun q q1 q2 => ?_⟩, ce, h5, ?_, ?_⟩
  · have hlt := (hP k q hk).lt
    have hg := h4.old_cell (Array.getElem?_eq_getElem hlt)
    rw [Array.getElem?_eq_getElem hlt]
    exact hg
  · have hg := h4.old_cell (Array.getElem?_eq_getElem q1)
    rw [Array.getElem?_eq_getElem q1]
    exact hg
  · rw [h6.vm]; rfl
  · rw [h3.alike.findClass]; exact h6.cls
set_option maxRecDepth 100000 in
theorem lk_io : Cond.classLink R_D 156 x_IO ∈ x_T := xmem2 68 rfl rfl
set_option maxRecDepth 100000 in
theorem lk_ia : Cond.classLink R_D 159 x_IA ∈ x_T := xmem2 133 rfl rfl
set_option maxRecDepth 100000 in
theorem is_io : Cond.instantiable x_IO 6 ∈ x_T := xmem2 69 rfl rfl
set_option maxRecDepth 100000 in
theorem is_ia : Cond.instantiable x_IA 6 ∈ x_T := xmem2 134 rfl rfl
set_option maxRecDepth 100000 in
theorem in_io : Cond.initialized x_IO ∈ x_T := xmem1 16 rfl rfl
set_option maxRecDepth 100000 in
theorem in_ia : Cond.initialized x_IA ∈ x_T := xmem1 17 rfl rfl
/-- a throwing contract out of a walk of the body -/
theorem x_metT {E : String} {l : Launch} {z : MethodName} {cc : ByteArray} {nL : Nat} {rt : Option FieldType} {fr lo : Nat} {D : va_G} {base : Nat} {g : Nat → ClassId} {gr : Nat → Bool} {av : List Value} {M : MS} (hy : plainName z.cls = true) (hlen : (lg_sl av).length ≤ nL)
    (body : ∀ (p : Program) (e : Env) (R : Room) (s : State) (m : MethodId) (args : Array Value) (below : List Frame) (meth : Method) (c : Code) (aa : Nat → Nat) (ls : Array Slot), xB p R s m args meth c cc nL z.cls (Cond.code z cc nL rt :: x_T) rt fr lo D x_cl (xty g) base → x_ho base s → c.exceptionTable.toList = [] → R.cells = 1 → R.slots = 6 →
      va_P D x_cl (xwd g aa M) s.heap → va_D (fun q : Nat => base ≤ q) (xwd g aa M) → lv_has ls nL ((lv_args 0 av).map (xq aa)) → W p l e R s m args below meth c s.heap [] 0 0 (fun t => ∃ o, t.status = .running ∧ Ended t below o ∧ xQt E D x_cl (xty g) base (xwd g) gr aa M args s o t) (F0 m 0 ls [])) :
    CtT E l z (Cond.code z cc nL rt :: x_T) fr lo D x_cl (xty g) base (xwd g) gr av M := by
  intro aa
  refine MetFree.of_bodyS (code := cc) (maxLocals := nL) (ret := rt) hy ?_ ?_
  · intro args s m h hn
    obtain ⟨meth, c, h1, h2, h3, h4, h5, h6, -, -⟩ := Cond.code_spec hn (atoms_spec (ws := Cond.code z cc nL rt :: x_T) h _ List.mem_cons_self)
    exact ⟨meth, c, h1, h2, h3, h4, h5, h6⟩
  · intro p e s m args below meth c s₁ B hml hP _
    have hh0 : s₁.heap = s.heap := by rw [B.state]; rfl
    obtain ⟨⟨rfl, hK, hP, hD, hbase⟩, hho⟩ := hP
    have hown : s.vm.findClass z.cls = some m.cls := findClass_of_methodNamed B.named
    have hts := atoms_spec (ws := Cond.code z cc nL rt :: x_T) B.pre
    have X := Stand.of_body B
    obtain ⟨meth', c', k1, k2, -, -, -, -, k7, -⟩ := Cond.code_spec B.named (hts _ List.mem_cons_self)
    have em : meth' = meth := Option.some.inj (k1.symm.trans B.method)
    subst em
    have ec : c' = c := Option.some.inj (k2.symm.trans X.code)
    subst ec
    have hex : c'.exceptionTable.toList = [] := by
      have h1 : c'.exceptionTable = #[] := by simpa [Array.isEmpty_iff] using k7
      rw [h1]
    have hl := lv_entry (av.map (xt aa)) (n := nL) (by rw [xl_len]; exact hlen)
    rw [xl_args] at hl
    have h4 := body p e (headSpec (Cond.code z cc nL rt :: x_T) { frames := fr, cells := 1, slots := 6, locals := lo }).room s m _ below meth' c' aa _ ⟨B.exec, B.bytes, hml, hown, hts, B.returns, B.notSynchronized, rfl, rfl, hK, hbase⟩ hho hex rfl rfl hP hD hl
    obtain ⟨t, a1, o, b1, b2, b3⟩ := h4 s₁ hh0 X
    rw [lg_entry_eq]
    exact ⟨t, o, a1, b1, b2, b3⟩
theorem dt_s_10 : decode b_D_checkSlot 10 = .ok (.new 156, 3) := by decide +kernel
theorem dt_s_13 : decode b_D_checkSlot 13 = .ok (.dup, 1) := by decide +kernel
theorem dt_s_14 : decode b_D_checkSlot 14 = .ok (.invokespecial 158, 3) := by decide +kernel
theorem dt_s_17 : decode b_D_checkSlot 17 = .ok (.athrow, 1) := by decide +kernel
theorem ctT_checkSlot {l : Launch} (htr : l.stackTraces = false) {D : va_G} {base : Nat} {g : Nat → ClassId} {gr : Nat → Bool} (v : Int32) (M : MS) (hv : v < 0 ∨ ¬ v < 16) :
    CtT x_IO l y_D_checkSlot (Cond.code y_D_checkSlot b_D_checkSlot 1 none :: x_T) 6 90 D x_cl (xty g) base (xwd g) gr [.int v] M := by
  refine x_metT (by decide) (Nat.le_of_ble_eq_true rfl) (fun p e R s m args below meth c aa ls B hho hex hc1 hs6 hP hD hl => ?_)
  have hl : lv_has ls 1 [(0, .int v)] := hl
  have fin := x_newT (p := p) (l := l) (e := e) (below := below) (gr := gr) B htr hho hex (E := x_IO) (ic := 158) (ix := 156) (by decide) x_io_atoms lk_io is_io in_io (pc := 10) hl.1 dt_s_10 dt_s_13 dt_s_14 dt_s_17 hP hD (by decide) (by decide) (by rw [hc1]; exact Nat.le_refl 1) (by rw [hs6]; exact Nat.le_refl 6)
  refine lv_iload_n B.1 B.2.1 d_D_checkSlot_0 rfl (lv_at hl 0 rfl) ?_
  refine lv_if_lt (tgt := 10) B.1 B.2.1 d_D_checkSlot_1 rfl (fun _ => fin) (fun h1 => ?_)
  refine lv_iload_n B.1 B.2.1 d_D_checkSlot_4 rfl (lv_at hl 0 rfl) ?_
  refine lv_bipush (v := 16) B.1 B.2.1 d_D_checkSlot_5 (by decide) ?_
  refine lv_icmp_lt (tgt := 18) B.1 B.2.1 d_D_checkSlot_7 rfl (fun h2 => ?_) (fun _ => fin)
  rcases hv with h | h
  · exact absurd h h1
  · exact absurd h2 h
theorem dt_r_10 : decode b_D_checkRange 9 = .ok (.new 159, 3) := by decide +kernel
theorem dt_r_13 : decode b_D_checkRange 12 = .ok (.dup, 1) := by decide +kernel
theorem dt_r_14 : decode b_D_checkRange 13 = .ok (.invokespecial 161, 3) := by decide +kernel
theorem dt_r_17 : decode b_D_checkRange 16 = .ok (.athrow, 1) := by decide +kernel
theorem ctT_checkRange {l : Launch} (htr : l.stackTraces = false) {D : va_G} {base : Nat} {g : Nat → ClassId} {gr : Nat → Bool} (v w : Int32) (M : MS) (hv : v < 0 ∨ ¬ v ≤ w) :
    CtT x_IA l y_D_checkRange (Cond.code y_D_checkRange b_D_checkRange 2 none :: x_T) 6 90 D x_cl (xty g) base (xwd g) gr [.int v, .int w] M := by
  refine x_metT (by decide) (Nat.le_of_ble_eq_true rfl) (fun p e R s m args below meth c aa ls B hho hex hc1 hs6 hP hD hl => ?_)
  have hl : lv_has ls 2 [(0, .int v), (1, .int w)] := hl
  have fin := x_newT (p := p) (l := l) (e := e) (below := below) (gr := gr) B htr hho hex (E := x_IA) (ic := 161) (ix := 159) (by decide) x_ia_atoms lk_ia is_ia in_ia (pc := 9) hl.1 dt_r_10 dt_r_13 dt_r_14 dt_r_17 hP hD (by decide) (by decide) (by rw [hc1]; exact Nat.le_refl 1) (by rw [hs6]; exact Nat.le_refl 6)
  refine lv_iload_n B.1 B.2.1 d_D_checkRange_0 rfl (lv_at hl 0 rfl) ?_
  refine lv_if_lt (tgt := 9) B.1 B.2.1 d_D_checkRange_1 rfl (fun _ => fin) (fun h1 => ?_)
  refine lv_iload_n B.1 B.2.1 d_D_checkRange_4 rfl (lv_at hl 0 rfl) ?_
  refine lv_iload_n B.1 B.2.1 d_D_checkRange_5 rfl (lv_at hl 1 rfl) ?_
  refine lv_icmp_le (tgt := 17) B.1 B.2.1 d_D_checkRange_6 rfl (fun h2 => ?_) (fun _ => fin)
  rcases hv with h | h
  · exact absurd h h1
  · exact absurd h2 h
def xZT (E : String) (below : List Frame) (args : Array Value) (s : State) (D : va_G) (base : Nat) (g : Nat → ClassId) (gr : Nat → Bool) (a0 : Nat → Nat) (M : MS) : Unit → State → Prop := fun _ t => ∃ o, t.status = .running ∧ Ended t below o ∧ xQt E D x_cl (xty g) base (xwd g) gr a0 M args s o t
def xfT (M : MS) : Unit → Nat × Nat := fun _ => ((cM M).1 + 1, (cM M).2 + 6)
section THR
variable {p : Program} {l : Launch} {e : Env} {R : Room} {s : State} {m : MethodId} {args : Array Value} {below : List Frame} {meth : Method} {c : Code} {nL : Nat} {D : va_G} {base : Nat}
variable {α : Type} {g : Nat → ClassId} {gr : Nat → Bool} {a0 : Nat → Nat} {k0 : Nat × Nat} {fc : α → Nat × Nat} {Z : α → State → Prop}
variable {cc : ByteArray} {own : String} {w0 : Cond} {rt : Option FieldType} {fr lo : Nat} {pc : Nat} {st rest : List Value} {lv : List (Nat × Value)} {M : MS} {x : Option α}
/-- a check that passes -/
theorem s_okU {z : MethodName} {wz : List Cond} {frz loz na : Nat} {av : List Value} (B : xB p R s m args meth c cc nL own (w0 :: x_T) rt fr lo D x_cl (xty g) base) (hR : xRn p l e R s m args below meth c nL base pc na z wz frz loz rcS) (hst : st = av.reverse ++ rest) (hsum : (rest.map fun v => v.category).sum ≤ 8) (hna : av.length = na)
    (hC : Ct l z wz frz loz D x_cl (xty g) base (xwd g) cM x_g0 av M M none) (kk : Sn p l e R s m args below meth c nL D x_cl base (xwd g) cM gr a0 k0 fc Z (pc + 3) rest lv M x) : Sn p l e R s m args below meth c nL D x_cl base (xwd g) cM gr a0 k0 fc Z pc st lv M x := by
  have h1 := s_callU (k := fun _ => x) (y := some (M, ())) (gr := gr) (a0 := a0) (k0 := k0) (fc := fc) (Z := Z) (M := M) (lv := lv) (wd := xwd g) (ct := cM) B hR hst (fun _ _ _ => trivial) (gr1 := x_g0) (fun _ _ => rfl) (List.all_eq_true.mpr (fun v _ => by cases v <;> rfl)) (List.all_eq_true.mpr (fun q _ => by obtain ⟨i, v⟩ := q; cases v <;> rfl)) hsum hna
    (fun r0 h0 => by cases h0; exact hC) (fun r0 h0 => by cases h0; exact kk)
  have e1 : cal cM M (some (M, ())) (fun _ => x) = x := cal_some rfl (Nat.le_refl _) (Nat.le_refl _)
  rw [e1] at h1
  exact h1
/-- a call of a static method that throws, where no handler is -/
theorem s_thrS {E : String} {z : MethodName} {index n maxL frz loz : Nat} {bytes : ByteArray} {ret : Option FieldType} {av : List Value} (hk : k0 = cM M) (B : xB p R s m args meth c cc nL own (w0 :: x_T) rt fr lo D x_cl (xty g) base) (hho : x_ho base s) (hex : c.exceptionTable.toList = []) (hd : decode cc pc = .ok (.invokestatic index, 3))
    (hco : Cond.code z bytes maxL ret ∈ x_T) (hsta : Cond.static z ∈ x_T) (hin : Cond.initialized z.cls ∈ x_T) (hlk : Cond.methodLink own index z ∈ x_T) (hd2 : z.cls ≠ "java/lang/invoke/MethodHandle" ∧ z.cls ≠ "java/lang/invoke/VarHandle" ∧ (parseMethodDescriptor z.desc).map (fun d => d.parameters.length) = some n)
    (hst : st = av.reverse ++ rest) (hna : av.length = n) (hsum : (rest.map fun v => v.category).sum ≤ 8) (hF : frz + 1 ≤ fr) (hL : 8 + (maxL + 11) + loz ≤ lo) (hC : CtT E l z (Cond.code z bytes maxL ret :: x_T) frz loz D x_cl (xty g) base (xwd g) gr av M) :
    Sn p l e R s m args below meth c nL D x_cl base (xwd g) cM gr a0 k0 (xfT M) (xZT E below args s D base g gr a0 M) pc st lv M (some ()) := by
  subst hk
  intro r hr
  refine ⟨Nat.le_succ _, Nat.le_add_right _ _, fun aa H locs ls ha hw hl g1 g2 g3 g4 => ?_⟩
  obtain ⟨hP, hD, hS⟩ := hw
  have ht := B.2.2.2.2.1
  have hT : ∀ w ∈ x_T, w.before args s = true := fun w hw => ht w (List.mem_cons_of_mem _ hw)
  have g3 : R.cells = (cM M).1 + 1 - (cM M).1 := g3
  have g4 : R.slots = (cM M).2 + 6 - (cM M).2 := g4
  subst hst
  rw [List.map_append, List.map_reverse, Nat.sub_self, Nat.sub_self]
  intro T hTh X
  obtain ⟨mk, hnamed⟩ := Cond.code_named (hT _ hco)
  obtain ⟨methM, cMM, hmethM, -, -, -, -, -, -, hsigM⟩ := Cond.code_spec hnamed (hT _ hco)
  have hstatic : methM.isStatic = true := Cond.static_spec hnamed hmethM (hT _ hsta)
  obtain ⟨kP, hkP, -⟩ := className_of_methodNamed hnamed
  have hinitP : kP.init = .initialized := Cond.initialized_spec (findClass_of_methodNamed hnamed) hkP (hT _ hin)
  have hlen : (av.map (xt aa)).length = methM.sig.parameters.length := by
    have h2 := hd2.2.2
    rw [hsigM] at h2
    rw [List.length_map, hna]
    exact (Option.some.inj h2).symm
  obtain ⟨vm₁, X₁, hstep₁⟩ := X.invokestatic B.1 B.2.2.2.1 (hT _ hlk) hnamed hmethM hstatic hkP hinitP ⟨hd2.1, hd2.2.1⟩ (g := F0 m pc ls ((av.map (xt aa)).reverse ++ rest.map (xt aa))) rfl (argsL := av.map (xt aa)) (rest := rest.map (xt aa)) hlen rfl (by rw [B.2.1]; exact hd)
  have hW₁ := X₁.warmed
  have hal : s.vm.Alike vm₁ := hW₁.alike
  have good : ∀ w ∈ x_T, w.before ((av.map (xt aa)).toArray) (T.setVm vm₁) = true := fun w hw => word_at hW₁ (good_of_word (List.mem_filter.mp hw).2) (hT w hw)
  have hsum2 : ((rest.map (xt aa)).map fun v => v.category).sum = (rest.map fun v => v.category).sum := by rw [List.map_map]; simp [Function.comp_def, xt_cat]
  have hkeep : ∀ q : Nat, q < base → T.heap[q]? = s.heap[q]? := fun q hq => by rw [hTh]; exact hS.2.1 q (Nat.lt_of_lt_of_le hq B.2.2.2.2.2.2.2.2.2.2) (Nat.not_le.mpr hq)
  obtain ⟨x9, t, T', L, hq, X', e1, e2, hL9, hsteps⟩ := x_thr (base := base) X₁ (hC aa) (g := F0 m pc ls (rest.map (xt aa))) rfl (by rw [B.2.2.1]; exact hl.1) (ig := .invokestatic index) (len := 3) (by rw [B.2.1]; exact hd) (mk := mk) (a := (av.map (xt aa)).toArray) (X₁.named hnamed) (bytes := bytes) (maxL := maxL) (ret := ret) (good _ hco)
    (fun w hw => by
      rcases List.mem_cons.mp hw with rfl | h
      · exact good _ hco
      · exact good _ h) (good _ hin) (by rw [B.2.2.2.2.2.2.2.1]; exact hF) (by rw [B.2.2.2.2.2.2.2.2.1]; show 2 * 0 + ((rest.map (xt aa)).map fun v => v.category).sum + (maxL + 11) + loz ≤ lo; rw [hsum2]; omega) (by omega) (by omega)
    ⟨⟨rfl, va_K.moved hal B.2.2.2.2.2.2.2.2.2.1, by show va_P D x_cl (xwd g aa M) T.heap; rw [hTh]; exact hP, hD, by show base ≤ T.heap.size; rw [hTh]; exact Nat.le_trans B.2.2.2.2.2.2.2.2.2.2 hS.1⟩, hho.moved hal hkeep⟩
    (fun o t9 h9 => by obtain ⟨x1, bb, q1, q2, q3, -⟩ := h9; exact ⟨x1, q1, q2, q3⟩)
  obtain ⟨l1, l2, l3, l4, l5⟩ := X'.leaveThrown x9 (g := F0 m pc ls (rest.map (xt aa))) rfl rfl rfl (by rw [hex]; intro y hy; cases hy) B.2.2.2.2.2.2.1
  obtain ⟨x1, bb, q1, q2, ⟨L1, q3, q4⟩, q5, q6, q7, q8, ⟨q9, q9'⟩, ce, q10, q11, q12⟩ := hq
  cases q1
  have hvt : t.vm.Alike T'.vm := by rw [e2]; exact Vm.Alike.refl _
  refine ⟨T'.setFrames (.throwing x9 :: below), hstep₁ _ (fun acts => (hsteps acts).trans l1), .threw x9, l2, l3, x9, bb, rfl, l4, ⟨locs ++ L, l5, ?_⟩, ha.tr q5, ?_, ?_, q8, ⟨?_, ?_⟩, ce, ?_, q11, ?_⟩
  · intro q hq
    rcases List.mem_append.mp hq with h | h
    · exact hS.2.2 q h
    · exact hL9 q h
  · exact va_K.moved (u := t) (U := T'.setFrames (.throwing x9 :: below)) hvt q6
  · show va_P D x_cl (xwd g bb M) T'.heap
    rw [e1]; exact q7
  · show s.heap.size ≤ T'.heap.size
    rw [e1]
    have : T.heap.size ≤ t.heap.size := q9
    rw [hTh] at this
    exact Nat.le_trans hS.1 this
  · intro q h1 h2
    show T'.heap[q]? = s.heap[q]?
    have h3 : t.heap[q]? = T.heap[q]? := q9' q (by show q < T.heap.size; rw [hTh]; exact Nat.lt_of_lt_of_le h1 hS.1) h2
    rw [e1, h3]
    exact hkeep q (Nat.not_le.mp h2)
  · show T'.heap[x9]? = some ce
    rw [e1]; exact q10
  · show T'.vm.findClass E = some ce.cls
    rw [e2]; exact q12
end THR
