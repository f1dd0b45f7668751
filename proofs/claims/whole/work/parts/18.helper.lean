/-! methods of the law that catch: their contracts -/
def CtH {σ : Type} (l : Launch) (z : MethodName) (ws : List Cond) (fr lo : Nat) (D : va_G) (cl : List vw_C) (tys : List (ClassId × FieldType)) (base : Nat) (wd : (Nat → Nat) → σ → va_W) (ct : σ → Nat × Nat) (gr : Nat → Bool) (av : List Value) (M M1 : σ) (v : Option Value) : Prop :=
  ∀ aa : Nat → Nat, Met l z ws { frames := fr, cells := (ct M1).1 - (ct M).1, slots := (ct M1).2 - (ct M).2, locals := lo } (fun a U => xPc D cl tys base wd aa av M a U ∧ x_ho base U) (xQc D cl tys base wd gr aa M1 v) ((ct M1).1 - (ct M).1) ((ct M1).2 - (ct M).2) (fun q : Nat => base ≤ q)
theorem x_metH {β : Type} {l : Launch} {z : MethodName} {cc : ByteArray} {nL : Nat} {rt : Option FieldType} {hh : List (Nat × Nat × Nat × Nat)} {fr lo : Nat} {D : va_G} {base : Nat} {g : Nat → ClassId} {gr : Nat → Bool}
    {av : List Value} {M : MS} {x : Option (MS × β)} {ov : β → Option Value} (hy : plainName z.cls = true) (hlen : (lg_sl av).length ≤ nL)
    (body : ∀ (p : Program) (e : Env) (R : Room) (s : State) (m : MethodId) (args : Array Value) (below : List Frame) (meth : Method) (c : Code) (az : Nat → Nat), xB p R s m args meth c cc nL z.cls (Cond.codeWith z cc nL rt hh :: x_T) rt fr lo D x_cl (xty g) base → x_ho base s → c.exceptionTable.toList.map (fun h => (h.startPc, h.endPc, h.handlerPc, h.catchType)) = hh →
      Sn p l e R s m args below meth c nL D x_cl base (xwd g) cM gr az (cM M) (xfc cM) (xZ below args s D x_cl (xty g) base (xwd g) cM gr az (cM M) ov) 0 [] (lv_args 0 av) M x)
    (r : MS × β) (hr : x = some r) : CtH l z (Cond.codeWith z cc nL rt hh :: x_T) fr lo D x_cl (xty g) base (xwd g) cM gr av M r.1 (ov r.2) := by
  intro aa
  refine va_MetW (cc := cc) (maxL := nL) (ret := rt) (hh := hh) hy rfl ?_
  intro p e s m args below meth c s₁ B hml hv
  obtain ⟨⟨rfl, hK, hP, hD, hbase⟩, hho⟩ := hv
  have hown : s.vm.findClass z.cls = some m.cls := findClass_of_methodNamed B.named
  have hts := atoms_spec (ws := Cond.codeWith z cc nL rt hh :: x_T) B.pre
  have X := Stand.of_body B
  obtain ⟨m', meth', c', k0, k1, k2, -, -, k5, -⟩ := Cond.codeWith_spec (hts _ List.mem_cons_self)
  cases k0.symm.trans B.named
  have em : meth' = meth := Option.some.inj (k1.symm.trans B.method)
  subst em
  have ec : c' = c := Option.some.inj (k2.symm.trans X.code)
  subst ec
  obtain ⟨h1, h2, h3⟩ := body p e (headSpec (Cond.codeWith z cc nL rt hh :: x_T) { frames := fr, cells := (cM r.1).1 - (cM M).1, slots := (cM r.1).2 - (cM M).2, locals := lo }).room s m _ below meth' c' aa ⟨B.exec, B.bytes, hml, hown, hts, B.returns, B.notSynchronized, rfl, rfl, hK, hbase⟩ hho k5 r hr
  have hl := lv_entry (av.map (xt aa)) (n := nL) (by rw [xl_len]; exact hlen)
  rw [lg_entry_eq]
  rw [xl_args] at hl
  have h4 := h3 aa s.heap [] _ xag.rf ⟨hP, hD, va_S.rf⟩ hl (Nat.le_refl _) (Nat.le_refl _) rfl rfl
  rw [Nat.sub_self, Nat.sub_self] at h4
  exact h4
theorem xtab1 {l : List ExceptionTableEntry} {a1 b1 c1 d1 : Nat} (h : l.map (fun h => (h.startPc, h.endPc, h.handlerPc, h.catchType)) = [(a1, b1, c1, d1)]) : ∃ x, l = [x] ∧ x.startPc = a1 ∧ x.endPc = b1 ∧ x.handlerPc = c1 ∧ x.catchType = d1 := by
  match l, h with
  | [x], h =>
    simp only [List.map_cons, List.map_nil, List.cons.injEq, Prod.mk.injEq, and_true] at h
    exact ⟨x, rfl, h.1, h.2.1, h.2.2.1, h.2.2.2⟩
theorem xtab2 {l : List ExceptionTableEntry} {a1 b1 c1 d1 a2 b2 c2 d2 : Nat} (h : l.map (fun h => (h.startPc, h.endPc, h.handlerPc, h.catchType)) = [(a1, b1, c1, d1), (a2, b2, c2, d2)]) : ∃ x y, l = [x, y] ∧ (x.startPc = a1 ∧ x.endPc = b1 ∧ x.handlerPc = c1 ∧ x.catchType = d1) ∧ y.startPc = a2 ∧ y.endPc = b2 ∧ y.handlerPc = c2 ∧ y.catchType = d2 := by
  match l, h with
  | [x, y], h =>
    simp only [List.map_cons, List.map_nil, List.cons.injEq, Prod.mk.injEq, and_true] at h
    exact ⟨x, y, rfl, ⟨h.1.1, h.1.2.1, h.1.2.2.1, h.1.2.2.2⟩, h.2.1, h.2.2.1, h.2.2.2.1, h.2.2.2.2⟩
set_option maxRecDepth 100000 in
theorem lkL_io : Cond.classLink R_Law 13 x_IO ∈ x_T := xmem2 59 rfl rfl
set_option maxRecDepth 100000 in
theorem lkL_ia : Cond.classLink R_Law 15 x_IA ∈ x_T := xmem2 60 rfl rfl
theorem xcat_io1 {p : Program} {l : Launch} {e : Env} {R : Room} {s : State} {m : MethodId} {args : Array Value} {below : List Frame} {meth : Method} {c : Code} {nL base : Nat} {cc : ByteArray} {w0 : Cond} {rt : Option FieldType} {fr lo : Nat} {D : va_G} {g : Nat → ClassId} (B : xB p R s m args meth c cc nL R_Law (w0 :: x_T) rt fr lo D x_cl (xty g) base) (hho : x_ho base s) {a b hp pc : Nat}
    (htab : c.exceptionTable.toList.map (fun h => (h.startPc, h.endPc, h.handlerPc, h.catchType)) = [(a, b, hp, 13)]) (h1 : a ≤ pc) (h2 : pc < b) : xCatch p l e R s m args below meth c x_IO pc hp := by
  obtain ⟨x, hx, e1, e2, e3, e4⟩ := xtab1 htab
  exact xCatch1 B.2.2.2.1 hx (by simp [covers, e1, e2, h1, h2]) (by decide : 13 ≠ 0) e4 e3 (B.2.2.2.2.1 _ (List.mem_cons_of_mem _ lkL_io)) (hho.dword _ (by simp [x_dw]))
theorem xcat_io2 {p : Program} {l : Launch} {e : Env} {R : Room} {s : State} {m : MethodId} {args : Array Value} {below : List Frame} {meth : Method} {c : Code} {nL base : Nat} {cc : ByteArray} {w0 : Cond} {rt : Option FieldType} {fr lo : Nat} {D : va_G} {g : Nat → ClassId} (B : xB p R s m args meth c cc nL R_Law (w0 :: x_T) rt fr lo D x_cl (xty g) base) (hho : x_ho base s) {a b hp hq pc : Nat}
    (htab : c.exceptionTable.toList.map (fun h => (h.startPc, h.endPc, h.handlerPc, h.catchType)) = [(a, b, hp, 13), (a, b, hq, 15)]) (h1 : a ≤ pc) (h2 : pc < b) : xCatch p l e R s m args below meth c x_IO pc hp := by
  obtain ⟨x, y, hx, ⟨e1, e2, e3, e4⟩, -⟩ := xtab2 htab
  exact xCatch1 B.2.2.2.1 hx (by simp [covers, e1, e2, h1, h2]) (by decide : 13 ≠ 0) e4 e3 (B.2.2.2.2.1 _ (List.mem_cons_of_mem _ lkL_io)) (hho.dword _ (by simp [x_dw]))
theorem xcat_ia2 {p : Program} {l : Launch} {e : Env} {R : Room} {s : State} {m : MethodId} {args : Array Value} {below : List Frame} {meth : Method} {c : Code} {nL base : Nat} {cc : ByteArray} {w0 : Cond} {rt : Option FieldType} {fr lo : Nat} {D : va_G} {g : Nat → ClassId} (B : xB p R s m args meth c cc nL R_Law (w0 :: x_T) rt fr lo D x_cl (xty g) base) (hho : x_ho base s) {a b hp hq pc : Nat}
    (htab : c.exceptionTable.toList.map (fun h => (h.startPc, h.endPc, h.handlerPc, h.catchType)) = [(a, b, hp, 13), (a, b, hq, 15)]) (h1 : a ≤ pc) (h2 : pc < b) : xCatch p l e R s m args below meth c x_IA pc hq := by
  obtain ⟨x, y, hx, ⟨e1, e2, e3, e4⟩, f1, f2, f3, f4⟩ := xtab2 htab
  exact xCatch2 (N := x_IO) B.2.2.2.1 hx (by simp [covers, f1, f2, h1, h2]) (by simp [covers, e1, e2, h1, h2]) (by decide : 15 ≠ 0) f4 f3 (by decide : 13 ≠ 0) e4 (B.2.2.2.2.1 _ (List.mem_cons_of_mem _ lkL_ia)) (hho.dword _ (by simp [x_dw])) (B.2.2.2.2.1 _ (List.mem_cons_of_mem _ lkL_io)) hho.2.2.2
