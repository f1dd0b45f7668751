/-! an exception that a caller catches: the search through its table, the classes of the table linked cold or warm -/
def xFT (e : Env) (S : State) (f : JFrame) (a : Addr) (h : Handler) (vm' : Vm) : Prop :=
  ∀ (Q : Handler → Pre) (E : CtlPost) (d : Bool) (acts : List Action), Sem.wp (findHandler f a) Q E e d acts S ↔ Q h d acts (S.setVm vm')
theorem x_goYes {Q : Handler → Pre} {E : CtlPost} {e : Env} {d : Bool} {acts : List Action} {S : State} {f : JFrame} {a : Addr} {x : ExceptionTableEntry} {t : List ExceptionTableEntry} {c : ClassId} {cell : Cell} (hx : covers x f.pc = true) (h0 : x.catchType ≠ 0) (hl : S.vm.ClassLinks e.platform f.method.cls x.catchType c) (hcell : S.heap[a]? = some cell) (hobj : ∀ k, cell.vm ≠ .statics k)
    (hk : ∃ k, S.vm.classes[cell.cls]? = some k) (hc : ∃ k, S.vm.classes[c]? = some k) (hfit : S.vm.assignable cell.cls c = true) :
    Sem.wp (findHandler.go f a (x :: t)) Q E e d acts S ↔ Q (.found x.handlerPc) d acts (S.setVm (S.vm.noted f.method.cls x.catchType (.cls c))) := by
  have hx2 : (decide (x.startPc ≤ f.pc) && decide (f.pc < x.endPc)) = true := hx
  have hal : S.vm.Alike (S.vm.noted f.method.cls x.catchType (.cls c)) := (Vm.Alike.refl S.vm).noted _ _ _
  have hres := (resolveClass_links e.toSetting hl).op (op := VmOp.resolveClass f.method.cls x.catchType) rfl
  obtain ⟨r1, r2⟩ := hres
  obtain ⟨k, hk⟩ := hk
  obtain ⟨k2, hk2⟩ := hc
  obtain ⟨k', hk', -⟩ := hal.2.2 _ _ hk
  obtain ⟨k2', hk2', -⟩ := hal.2.2 _ _ hk2
  have hf : (S.vm.noted f.method.cls x.catchType (.cls c)).assignable cell.cls c = true := by rw [hal.assignable]; exact hfit
  simp [findHandler.go, hx2, h0, r1, r2, hcell, hobj, hk', hk2', hf, VmOp.dirties, VmOp.acts]
theorem x_goNo {Q : Handler → Pre} {E : CtlPost} {e : Env} {d : Bool} {acts : List Action} {S : State} {f : JFrame} {a : Addr} {x : ExceptionTableEntry} {t : List ExceptionTableEntry} {c : ClassId} {cell : Cell} (hx : covers x f.pc = true) (h0 : x.catchType ≠ 0) (hl : S.vm.ClassLinks e.platform f.method.cls x.catchType c) (hcell : S.heap[a]? = some cell) (hobj : ∀ k, cell.vm ≠ .statics k)
    (hk : ∃ k, S.vm.classes[cell.cls]? = some k) (hc : ∃ k, S.vm.classes[c]? = some k) (hfit : S.vm.assignable cell.cls c = false) :
    Sem.wp (findHandler.go f a (x :: t)) Q E e d acts S ↔ Sem.wp (findHandler.go f a t) Q E e d acts (S.setVm (S.vm.noted f.method.cls x.catchType (.cls c))) := by
  have hx2 : (decide (x.startPc ≤ f.pc) && decide (f.pc < x.endPc)) = true := hx
  have hal : S.vm.Alike (S.vm.noted f.method.cls x.catchType (.cls c)) := (Vm.Alike.refl S.vm).noted _ _ _
  have hres := (resolveClass_links e.toSetting hl).op (op := VmOp.resolveClass f.method.cls x.catchType) rfl
  obtain ⟨r1, r2⟩ := hres
  obtain ⟨k, hk⟩ := hk
  obtain ⟨k2, hk2⟩ := hc
  obtain ⟨k', hk', -⟩ := hal.2.2 _ _ hk
  obtain ⟨k2', hk2', -⟩ := hal.2.2 _ _ hk2
  have hf : (S.vm.noted f.method.cls x.catchType (.cls c)).assignable cell.cls c = false := by rw [hal.assignable]; exact hfit
  simp [findHandler.go, hx2, h0, r1, r2, hcell, hobj, hk', hk2', hf, VmOp.dirties, VmOp.acts]
theorem x_stepC {e : Env} {S : State} {a : Addr} {f : JFrame} {r : List Frame} {pc : Nat} {vm' : Vm} (hfind : xFT e S f a (.found pc) vm') :
    (stepThrowing e S a (.java f :: r)).Is ((S.setVm vm').setFrames (.java { f with pc := pc, stack := [.ref a] } :: r)) [] := by
  simp only [stepThrowing, searchFrame, vmDo]
  generalize hr : Sem.go _ e false [] S = res
  obtain ⟨as, rfl, ha⟩ := Sem.eq_ok_of hr (a := Handler.found pc) (s' := S.setVm vm') (acts' := []) (by simp [hfind _ _ _ _])
  exact ⟨rfl, ha⟩
theorem x_caught {tb : Tables} {e : Env} {s target : State} {g : JFrame} {c : Code} {below : List Frame} {a : Addr} (h : At s g.method c below) {pc : Nat} {vm' : Vm}
    (hfind : xFT e ((s.setTop g).pushFrame (.throwing a)) g a (.found pc) vm') (hrest : Steps tb e below ((s.setVm vm').setTop { g with pc := pc, stack := [.ref a] }) target) :
    Steps tb e below ((s.setTop g).pushFrame (.throwing a)) target := by
  obtain ⟨hgo, hw⟩ := h.throwing a
  refine Steps.head hgo hw ?_
  rw [stepThread_throwing (frames_entered h.top _), (x_stepC (S := (s.setTop g).pushFrame (.throwing a)) hfind).1]
  obtain ⟨g₀, hg⟩ := Option.isSome_iff_exists.mp h.top
  obtain ⟨r, hr⟩ := State.topJava?_eq_some.mp hg
  have hr' : (s.setVm vm').frames = .java g₀ :: r := hr
  have hsf : ∀ (u : State) (F G : List Frame), ((u.setFrames F).setVm vm').setFrames G = (u.setVm vm').setFrames G := fun u F G => by
    have h1 : (u.setFrames F).setVm vm' = (u.setVm vm').setFrames F := rfl
    rw [h1, State.setFrames_setFrames]
  rw [State.setTop_of_frames _ hr'] at hrest
  rw [hr, List.tail_cons, State.pushFrame, hsf, State.setTop_of_frames _ hr, hsf]
  exact hrest
/-- from the note of the exception to its handler -/
def xCatch (p : Program) (l : Launch) (e : Env) (R : Room) (s : State) (m : MethodId) (args : Array Value) (below : List Frame) (meth : Method) (c : Code) (E : String) (pc hp : Nat) : Prop :=
  ∀ (T : State) (locs : List Loc) (cells slots : Nat) (a : Addr) (cell : Cell) (ls : Array Slot) (st : List Value), Stand p l e R s m args below meth c T locs cells slots → T.heap[a]? = some cell → cell.vm.isStatics = false → s.vm.findClass E = some cell.cls →
    ∃ vm', Stand p l e R s m args below meth c (T.setVm vm') locs cells slots ∧ ∀ target, Steps p.tables e below ((T.setVm vm').setTop (F0 m hp ls [.ref a])) target → Steps p.tables e below ((T.setTop (F0 m pc ls st)).pushFrame (.throwing a)) target
theorem xCatch1 {p : Program} {l : Launch} {e : Env} {R : Room} {s : State} {m : MethodId} {args : Array Value} {below : List Frame} {meth : Method} {c : Code} {E own : String} {pc hp ct : Nat} {x : ExceptionTableEntry} {rest : List ExceptionTableEntry} (hown : s.vm.findClass own = some m.cls) (htab : c.exceptionTable.toList = x :: rest) (hx : covers x pc = true) (h0 : ct ≠ 0) (hct : x.catchType = ct) (hhp : x.handlerPc = hp)
    (hlink : (Cond.classLink own ct E).before args s = true) (hcast : (Cond.castable E E).before args s = true) : xCatch p l e R s m args below meth c E pc hp := by
  intro T locs cells slots a cell ls st X hcell hobj hE
  have hpl : e.platform.magicAccessors = ({} : Platform).magicAccessors := by rw [X.admits.platform]
  obtain ⟨cT, hcT, hcl⟩ := Cond.classLink_spec hown hlink e.platform hpl
  obtain ⟨c3, c4, hc3, hc4, hasg⟩ := Cond.castable_spec hcast
  cases hc3.symm.trans hc4
  cases hcT.symm.trans hE
  cases hcT.symm.trans hc3
  obtain ⟨dk, _, _, kt, hd, _, _, _, _, hkt, _, hopen⟩ := hcl.here
  have hcl₀ := X.warmed.classLinks hcl
  have hW' : s.WarmedH (T.vm.noted m.cls ct (.cls cell.cls)) := X.warmed.noted hd hopen (State.rightAt_cls hcl)
  have hal := X.warmed.alike
  obtain ⟨kt', hkt', -⟩ := hal.2.2 _ _ hkt
  refine ⟨_, X.noted hW', fun target hrest => ?_⟩
  subst hct; subst hhp
  refine x_caught (g := F0 m pc ls st) X.here ?_ hrest
  intro Q E9 d acts
  rw [W.findHandler_eq (f := F0 m pc ls st) (s := (T.setTop (F0 m pc ls st)).pushFrame (.throwing a)) (meth := meth) (code := c) X.method' X.code, htab]
  exact x_goYes (S := (T.setTop (F0 m pc ls st)).pushFrame (.throwing a)) (f := F0 m pc ls st) hx h0 hcl₀ hcell (VmData.ne_statics_of hobj) ⟨kt', hkt'⟩ ⟨kt', hkt'⟩ (by show T.vm.assignable _ _ = true; rw [hal.assignable]; exact hasg)
theorem xCatch2 {p : Program} {l : Launch} {e : Env} {R : Room} {s : State} {m : MethodId} {args : Array Value} {below : List Frame} {meth : Method} {c : Code} {E N own : String} {pc hp ct cn : Nat} {x y : ExceptionTableEntry} {rest : List ExceptionTableEntry} (hown : s.vm.findClass own = some m.cls) (htab : c.exceptionTable.toList = y :: x :: rest) (hx : covers x pc = true) (hy : covers y pc = true) (h0 : ct ≠ 0) (hct : x.catchType = ct) (hhp : x.handlerPc = hp) (n0 : cn ≠ 0) (hcn : y.catchType = cn)
    (hlink : (Cond.classLink own ct E).before args s = true) (hcast : (Cond.castable E E).before args s = true) (hlinkN : (Cond.classLink own cn N).before args s = true) (hno : ∃ c1 c2 : ClassId, s.vm.findClass E = some c1 ∧ s.vm.findClass N = some c2 ∧ s.vm.assignable c1 c2 = false) : xCatch p l e R s m args below meth c E pc hp := by
  intro T locs cells slots a cell ls st X hcell hobj hE
  have hpl : e.platform.magicAccessors = ({} : Platform).magicAccessors := by rw [X.admits.platform]
  obtain ⟨cT, hcT, hcl⟩ := Cond.classLink_spec hown hlink e.platform hpl
  obtain ⟨cN, hcN, hclN⟩ := Cond.classLink_spec hown hlinkN e.platform hpl
  obtain ⟨c3, c4, hc3, hc4, hasg⟩ := Cond.castable_spec hcast
  cases hc3.symm.trans hc4
  cases hcT.symm.trans hE
  cases hcT.symm.trans hc3
  obtain ⟨n1, n2, hn1, hn2, hnas⟩ := hno
  cases hcT.symm.trans hn1
  cases hcN.symm.trans hn2
  obtain ⟨dkN, _, _, ktN, hdN, _, _, _, _, hktN, _, hopenN⟩ := hclN.here
  have hclN₀ := X.warmed.classLinks hclN
  have hWN : s.WarmedH (T.vm.noted m.cls cn (.cls cN)) := X.warmed.noted hdN hopenN (State.rightAt_cls hclN)
  have XN := X.noted hWN
  obtain ⟨dk, _, _, kt, hd, _, _, _, _, hkt, _, hopen⟩ := hcl.here
  have hcl₀ := XN.warmed.classLinks hcl
  have hW' : s.WarmedH ((T.setVm (T.vm.noted m.cls cn (.cls cN))).vm.noted m.cls ct (.cls cell.cls)) := XN.warmed.noted hd hopen (State.rightAt_cls hcl)
  have hal := X.warmed.alike
  have halN := XN.warmed.alike
  obtain ⟨kt', hkt', -⟩ := hal.2.2 _ _ hkt
  obtain ⟨kN', hkN', -⟩ := hal.2.2 _ _ hktN
  obtain ⟨kt'', hkt'', -⟩ := halN.2.2 _ _ hkt
  refine ⟨_, XN.noted hW', fun target hrest => ?_⟩
  subst hct; subst hhp; subst hcn
  refine x_caught (vm' := (T.setVm (T.vm.noted m.cls y.catchType (.cls cN))).vm.noted m.cls x.catchType (.cls cell.cls)) (g := F0 m pc ls st) X.here ?_ hrest
  intro Q E9 d acts
  rw [W.findHandler_eq (f := F0 m pc ls st) (s := (T.setTop (F0 m pc ls st)).pushFrame (.throwing a)) (meth := meth) (code := c) X.method' X.code, htab]
  rw [x_goNo (S := (T.setTop (F0 m pc ls st)).pushFrame (.throwing a)) (f := F0 m pc ls st) hy n0 hclN₀ hcell (VmData.ne_statics_of hobj) ⟨kt', hkt'⟩ ⟨kN', hkN'⟩ (by show T.vm.assignable _ _ = false; rw [hal.assignable]; exact hnas)]
  exact x_goYes (S := ((T.setTop (F0 m pc ls st)).pushFrame (.throwing a)).setVm (T.vm.noted m.cls y.catchType (.cls cN))) (f := F0 m pc ls st) hx h0 hcl₀ hcell (VmData.ne_statics_of hobj) ⟨kt'', hkt''⟩ ⟨kt'', hkt''⟩ (by show (T.setVm (T.vm.noted m.cls y.catchType (.cls cN))).vm.assignable _ _ = true; rw [halN.assignable]; exact hasg)
/-- the state behind an exception: one cell of six slots more -/
def aC (M : MS) : MS := (M.1, M.2.1, M.2.2.1, M.2.2.2.1, M.2.2.2.2.1, ((cM M).1 + 1, (cM M).2 + 6))
section CAT
variable {p : Program} {l : Launch} {e : Env} {R : Room} {s : State} {m : MethodId} {args : Array Value} {below : List Frame} {meth : Method} {c : Code} {nL : Nat} {D : va_G} {base : Nat}
variable {α : Type} {g : Nat → ClassId} {gr : Nat → Bool} {a0 : Nat → Nat} {k0 : Nat × Nat} {fc : α → Nat × Nat} {Z : α → State → Prop}
variable {cc : ByteArray} {own : String} {w0 : Cond} {rt : Option FieldType} {fr lo : Nat} {pc : Nat} {st rest : List Value} {lv : List (Nat × Value)} {M : MS} {x : Option α}
/-- the handler's first instruction lays the exception aside -/
def xAst (p : Program) (l : Launch) (e : Env) (R : Room) (s : State) (m : MethodId) (args : Array Value) (below : List Frame) (meth : Method) (c : Code) (nL hp hp2 : Nat) : Prop :=
  ∀ (H : Heap) (locs : List Loc) (cells slots : Nat) (Z0 : State → Prop) (ls : Array Slot) (a : Nat), lv_has ls nL [] → (∀ ls' : Array Slot, lv_has ls' nL [] → W p l e R s m args below meth c H locs cells slots Z0 (F0 m hp2 ls' [])) → W p l e R s m args below meth c H locs cells slots Z0 (F0 m hp ls [.ref a])
theorem xAst1 {hp j : Nat} (B : xB p R s m args meth c cc nL own (w0 :: x_T) rt fr lo D x_cl (xty g) base) (hd : decode cc hp = .ok (.astore j, 2)) (hj : j < nL) : xAst p l e R s m args below meth c nL hp (hp + 2) := fun H locs cells slots Z0 ls a hl k =>
  lv_astore (lv := []) (lv' := [(j, .ref a)]) B.1 B.2.1 hd hl hj rfl (fun ls' hl' => k ls' ⟨hl'.1, hl'.2.1, fun q hq => by cases hq⟩)
theorem xAst2 {hp : Nat} {j : Fin 4} (B : xB p R s m args meth c cc nL own (w0 :: x_T) rt fr lo D x_cl (xty g) base) (hd : decode cc hp = .ok (.astore_n j, 1)) (hj : (j : Nat) < nL) : xAst p l e R s m args below meth c nL hp (hp + 1) := fun H locs cells slots Z0 ls a hl k =>
  lv_astore_n (lv := []) (lv' := [((j : Nat), .ref a)]) B.1 B.2.1 hd rfl hl hj rfl (fun ls' hl' => k ls' ⟨hl'.1, hl'.2.1, fun q hq => by cases hq⟩)
set_option maxHeartbeats 4000000 in
/-- a call of a method that throws, caught: the walk goes on behind the handler's first instruction -/
theorem s_thrV {E C : String} {T9 : u_T} {ty0 : Nat → FieldType} {z : MethodName} {index n maxL frz loz o ci hp hp2 : Nat} {bytes : ByteArray} {ret : Option FieldType} {av : List Value} (B : xB p R s m args meth c cc nL own (w0 :: x_T) rt fr lo D x_cl (xty g) base) (hho : x_ho base s) (hcat : xCatch p l e R s m args below meth c E pc hp) (hd : decode cc pc = .ok (.invokevirtual index, 3))
    (hc : xCls x_cl x_T ci C T9 ty0) (ho : x_kd o = ci) (hzC : z.cls = C) (hco : Cond.code z bytes maxL ret ∈ x_T) (him : Cond.instanceMethod z ∈ x_T) (hsl : Cond.selects C z z ∈ x_T) (hin : Cond.initialized z.cls ∈ x_T) (hlk : Cond.methodLink own index z ∈ x_T) (hd2 : z.cls ≠ "java/lang/invoke/MethodHandle" ∧ z.cls ≠ "java/lang/invoke/VarHandle" ∧ (parseMethodDescriptor z.desc).map (fun d => d.parameters.length) = some n)
    (hst : st = (Value.ref o :: av).reverse ++ rest) (hna : av.length = n) (hsum : (rest.map fun v => v.category).sum ≤ 8) (hF : frz + 1 ≤ fr) (hL : 8 + (maxL + 11) + loz ≤ lo) (hC : CtT E l z (Cond.code z bytes maxL ret :: x_T) frz loz D x_cl (xty g) base (xwd g) gr (.ref o :: av) M)
    (hab : xAst p l e R s m args below meth c nL hp hp2) (kk : Sn p l e R s m args below meth c nL D x_cl base (xwd g) cM gr a0 k0 fc Z hp2 [] [] (aC M) x) :
    Sn p l e R s m args below meth c nL D x_cl base (xwd g) cM gr a0 k0 fc Z pc st lv M x := by
  intro r hr
  obtain ⟨h1, h2, h3⟩ := kk r hr
  have h1 : (cM M).1 + 1 ≤ (fc r).1 := h1
  have h2 : (cM M).2 + 6 ≤ (fc r).2 := h2
  refine ⟨by omega, by omega, fun aa H locs ls ha hw hl g1 g2 g3 g4 => ?_⟩
  obtain ⟨hP, hD, hS⟩ := hw
  have ht := B.2.2.2.2.1
  have hT : ∀ w ∈ x_T, w.before args s = true := fun w hw => ht w (List.mem_cons_of_mem _ hw)
  subst hst
  rw [List.map_append, List.map_reverse, List.map_cons, xrev]
  intro T hTh X
  obtain ⟨mk, methM, hnamed, hmethM, hstM, habM⟩ := Cond.instanceMethod_spec (hT _ him)
  obtain ⟨methM', cMM, hmethM', -, -, -, -, -, -, hsigM⟩ := Cond.code_spec hnamed (hT _ hco)
  cases hmethM.symm.trans hmethM'
  obtain ⟨c1, c2, c3, c4, c5⟩ := hc
  have hn : o < xNW := x_kd_lt (by rw [ho]; omega)
  obtain ⟨cellB, hcB, hoB, hclB⟩ := va_recv B.2.2.2.2.2.2.2.2.2.1 hP c1 (xat (g := g) (M := M) aa hn (xent_obj g aa M ho c2))
  have hclB : s.vm.findClass C = some cellB.cls := hclB
  obtain ⟨cc2, r2, m2, q1, q2, q3, q4, kP, hkP, hkPi⟩ := Cond.selects_spec (hT _ hsl)
  cases hclB.symm.trans q1
  cases (State.methodFound?_of_named hnamed ⟨hd2.1, hd2.2.1⟩).symm.trans q2
  cases hnamed.symm.trans q3
  have hselP : selectMethod e.platform s.vm cellB.cls mk = .method mk := by rw [Launch.admits_selectMethod X.admits]; exact q4
  have hlen : (av.map (xt aa)).length = methM.sig.parameters.length := by
    have h9 := hd2.2.2
    rw [hsigM] at h9
    rw [List.length_map, hna]
    exact (Option.some.inj h9).symm
  obtain ⟨vm₁, X₁, hstep₁⟩ := X.invokevirtual B.1 B.2.2.2.1 (hT _ hlk) hnamed hmethM hstM hkP hkPi ⟨hd2.1, hd2.2.1⟩ (a := aa o) (cell := cellB) (by rw [hTh]; exact hcB) (fun z9 h => by rw [h] at hoB; cases hoB) hselP hmethM habM hkP hkPi
    (g := F0 m pc ls ((av.map (xt aa)).reverse ++ .ref (aa o) :: rest.map (xt aa))) rfl (argsL := av.map (xt aa)) (rest := rest.map (xt aa)) hlen rfl (by rw [B.2.1]; exact hd)
  have hW₁ := X₁.warmed
  have hal : s.vm.Alike vm₁ := hW₁.alike
  have good : ∀ w ∈ x_T, w.before ((Value.ref (aa o) :: av.map (xt aa)).toArray) (T.setVm vm₁) = true := fun w hw => word_at hW₁ (good_of_word (List.mem_filter.mp hw).2) (hT w hw)
  have hsum2 : ((rest.map (xt aa)).map fun v => v.category).sum = (rest.map fun v => v.category).sum := by rw [List.map_map]; simp [Function.comp_def, xt_cat]
  have hkeep : ∀ q : Nat, q < base → T.heap[q]? = s.heap[q]? := fun q hq => by rw [hTh]; exact hS.2.1 q (Nat.lt_of_lt_of_le hq B.2.2.2.2.2.2.2.2.2.2) (Nat.not_le.mpr hq)
  obtain ⟨x9, t, T', L, hq, X', e1, e2, hL9, hsteps⟩ := x_thr (base := base) X₁ (hC aa) (g := F0 m pc ls (rest.map (xt aa))) rfl (by rw [B.2.2.1]; exact hl.1) (ig := .invokevirtual index) (len := 3) (by rw [B.2.1]; exact hd) (mk := mk) (a := (Value.ref (aa o) :: av.map (xt aa)).toArray) (X₁.named hnamed) (bytes := bytes) (maxL := maxL) (ret := ret) (good _ hco)
    (fun w hw => by
      rcases List.mem_cons.mp hw with rfl | h
      · exact good _ hco
      · exact good _ h) (good _ hin) (by rw [B.2.2.2.2.2.2.2.1]; exact hF) (by rw [B.2.2.2.2.2.2.2.2.1]; show 2 * 0 + ((rest.map (xt aa)).map fun v => v.category).sum + (maxL + 11) + loz ≤ lo; rw [hsum2]; omega) (by omega) (by omega)
    ⟨⟨rfl, va_K.moved hal B.2.2.2.2.2.2.2.2.2.1, by show va_P D x_cl (xwd g aa M) T.heap; rw [hTh]; exact hP, hD, by show base ≤ T.heap.size; rw [hTh]; exact Nat.le_trans B.2.2.2.2.2.2.2.2.2.2 hS.1⟩, hho.moved hal hkeep⟩
    (fun o9 t9 h9 => by obtain ⟨x1, bb, q1, q2, q3, -⟩ := h9; exact ⟨x1, q1, q2, q3⟩)
  obtain ⟨x1, bb, q1, q2, ⟨L1, q3, q4⟩, q5, q6, q7, q8, ⟨q9, q9'⟩, ce, q10, q11, q12⟩ := hq
  cases q1
  have hE : s.vm.findClass E = some ce.cls := by
    have h9 : T'.vm.findClass E = some ce.cls := by rw [e2]; exact q12
    rw [X'.warmed.alike.findClass] at h9
    exact h9
  obtain ⟨vm2, X2, hstep2⟩ := hcat T' _ _ _ x9 ce ls (rest.map (xt aa)) X' (by rw [e1]; exact q10) q11 hE
  have hS' : va_S (fun q : Nat => base ≤ q) s.heap T'.heap (locs ++ L) := by
    refine ⟨?_, fun y y1 y2 => ?_, fun y hy => ?_⟩
    · rw [e1]
      have h9 : T.heap.size ≤ t.heap.size := q9
      rw [hTh] at h9
      exact Nat.le_trans hS.1 h9
    · have h9 : t.heap[y]? = T.heap[y]? := q9' y (by show y < T.heap.size; rw [hTh]; exact Nat.lt_of_lt_of_le y1 hS.1) y2
      rw [e1, h9]
      exact hkeep y (Nat.not_le.mp y2)
    · rcases List.mem_append.mp hy with h9 | h9
      · exact hS.2.2 y h9
      · exact hL9 y h9
  have hwk : W p l e R s m args below meth c T'.heap (locs ++ L) ((cM M).1 - k0.1 + 1) ((cM M).2 - k0.2 + 6) (Z r) (F0 m hp ls [.ref x9]) := by
    refine hab _ _ _ _ _ ls x9 ⟨hl.1, hl.2.1, fun q hq => by cases hq⟩ (fun ls' hl' => ?_)
    have h4 := h3 bb T'.heap (locs ++ L) ls' (ha.tr q5) ⟨by rw [e1]; exact q7, q8, hS'⟩ ⟨hl'.1, hl'.2.1, fun q hq => by cases hq⟩ (by show k0.1 ≤ (cM M).1 + 1; omega) (by show k0.2 ≤ (cM M).2 + 6; omega) g3 g4
    refine W.cs (cells' := (cM (aC M)).1 - k0.1) (slots' := (cM (aC M)).2 - k0.2) (by show _ = (cM M).1 + 1 - k0.1; omega) (by show _ = (cM M).2 + 6 - k0.2; omega) h4
  obtain ⟨t2, a1, b1⟩ := hwk (T'.setVm vm2) rfl X2
  exact ⟨t2, hstep₁ _ (fun acts => (hsteps acts).trans (hstep2 _ a1)), b1⟩
end CAT
