/-! THE CLAIM OUT OF ONE WALK OF THE LAW'S BODY. Your part is whole_start (and what it stands on); all else here is the same for every law, but numbers. -/
def R_law : String := "DerivativeDeskLaw"
def lw_P (b : Addr) (xs : List Int32) (args : Array Value) (s : State) : Prop := args = #[.ref b] ∧ s.IntsAt b xs ∧ xs.length ≤ 2560 ∧ (Jvm.Cond.and given_1 narrow_1).before args s = true
def lw_Q (_ : Array Value) (s : State) (o : Outcome) (t : State) : Prop := o = .returned (some (.int 1)) ∧ Framed s o t [] 601024 7293034
def lw_Z (below : List Frame) (a : Array Value) (s : State) : State → Prop := fun t => ∃ o, t.status = .running ∧ Ended t below o ∧ lw_Q a s o t
/-- the law's own end, with 1 on the stack, nothing written that was there before, its room as the claim has it -/
theorem lw_ret {p : Program} {l : Launch} {e : Env} {s : State} {m : MethodId} {below : List Frame} {meth : Method} {c : Code} {b : Nat} (hx : p.tables.exec = Jvm.exec) (hb : c.code = code) (hr : meth.sig.returnType = ret) (hlocks : meth.locks = false) {pc : Nat} {H : Heap} {ls : Array Slot} (hdg : decode code pc = .ok (.ireturn, 1)) : W p l e room_1 s m #[Value.ref b] below meth c H [] 601024 7293034 (lw_Z below #[Value.ref b] s) (F0 m pc ls [.int 1]) := by
  intro T hT X
  obtain ⟨fs, hret, hrun, hended, hW, hframe⟩ := X.leave (v := some (.int 1)) (hlocks := hlocks) (fun h => by rw [hr] at h; cases h)
  have hmeth' : T.vm.method? m = some meth := X.method'
  refine ⟨T.setFrames fs, ?_, .returned (some (.int 1)), hrun, hended, rfl, ⟨_, rfl⟩, hW, hframe⟩
  jvm_step X.here [X.here.top, hx, hb, hdg, hmeth', hr, ret, narrow_b1]
  (try refine ⟨rfl, ?_⟩); (try refine ⟨rfl, ?_⟩)
  first | (intro acts; rw [hret _ acts rfl rfl rfl]) | rw [hret _ _ rfl rfl rfl]
  exact Steps.refl _
/-- what holds at the law's entry: the machine, the code, the tables' words (any of lw_tbl by 'hts w (by decide +kernel)'), the script of L ints xs at the cell b, what the Statement gives of the start (any of its parts by flat_of_before) -/
def lw_At (p : Program) (s : State) (m : MethodId) (meth : Method) (c : Code) (b L : Nat) (xs : Nat → Int32) : Prop :=
  p.tables.exec = Jvm.exec ∧ c.code = code ∧ meth.sig.returnType = ret ∧ c.maxLocals = 8 ∧ s.vm.findClass R_law = some m.cls ∧ (∀ w ∈ lw_tbl, w.before #[Value.ref b] s = true) ∧ va_X b L xs s s.heap ∧ b < s.heap.size ∧ meth.locks = false ∧ (Jvm.Cond.and given_1 narrow_1).before #[Value.ref b] s = true
/-! the law's own method: calls of its helpers, its script, its end -/
section LAWK
variable {p : Program} {l : Launch} {e : Env} {R : Room} {s : State} {m : MethodId} {args : Array Value} {below : List Frame} {meth : Method} {c : Code} {nL : Nat} {D : va_G} {base : Nat}
variable {α : Type} {g : Nat → ClassId} {gr : Nat → Bool} {a0 : Nat → Nat} {k0 : Nat × Nat} {fc : α → Nat × Nat} {Z : α → State → Prop}
variable {cc : ByteArray} {own : String} {w0 : Cond} {rt : Option FieldType} {fr lo : Nat} {pc : Nat} {st rest : List Value} {lv : List (Nat × Value)} {M : MS} {x : Option α}
theorem lk_SW {z : MethodName} {index n maxL frz loz : Nat} {bytes : ByteArray} {ret : Option FieldType} {hh : List (Nat × Nat × Nat × Nat)} (B : xB p R s m args meth c cc nL own (w0 :: x_T) rt fr lo D x_cl (xty g) base) (hd : decode cc pc = .ok (.invokestatic index, 3)) (hco : Cond.codeWith z bytes maxL ret hh ∈ x_T) (hst : Cond.static z ∈ x_T) (hin : Cond.initialized z.cls ∈ x_T) (hlk : Cond.methodLink own index z ∈ x_T)
    (hd2 : z.cls ≠ "java/lang/invoke/MethodHandle" ∧ z.cls ≠ "java/lang/invoke/VarHandle" ∧ (parseMethodDescriptor z.desc).map (fun d => d.parameters.length) = some n) (hF : frz + 1 ≤ fr) (hL : 8 + (maxL + 11) + loz ≤ lo) :
    xRn p l e R s m args below meth c nL base pc n z (Cond.codeWith z bytes maxL ret hh :: x_T) frz loz rcS := by
  intro H locs ls cells slots mc ms Pc Qc av rest hM hbl hrc hpre hsz hsum hna hc hs
  have ht := B.2.2.2.2.1
  have hT : ∀ w ∈ x_T, w.before args s = true := fun w hw => ht w (List.mem_cons_of_mem _ hw)
  have hK : Back l R p e below s args z 3 8 (PreOf R mc ms Pc) (PostOf Qc mc ms (fun q : Nat => base ≤ q)) := va_backW (hh := hh) (bytes := bytes) (maxL := maxL) (ret := ret) hM hbl rfl rfl (by rw [B.2.2.2.2.2.2.2.1]; exact hF) (by rw [B.2.2.2.2.2.2.2.2.1]; exact hL)
    (fun w hw a' U hW => by
      have hw2 : w ∈ x_T := by
        rcases List.mem_cons.mp hw with rfl | h
        · exact hco
        · exact h
      exact word_at hW (good_of_word (List.mem_filter.mp hw2).2) (hT w hw2)) List.mem_cons_self (fun a' U hW => word_at hW (good_of_word (List.mem_filter.mp hin).2) (hT _ hin))
  obtain ⟨mk, methM, cMM, hnamed, hmethM, -, -, -, -, -, -, hsigM⟩ := Cond.codeWith_spec (hT _ hco)
  have hstatic : methM.isStatic = true := Cond.static_spec hnamed hmethM (hT _ hst)
  obtain ⟨kP, hkP, -⟩ := className_of_methodNamed hnamed
  have hinitP : kP.init = .initialized := Cond.initialized_spec (findClass_of_methodNamed hnamed) hkP (hT _ hin)
  have hlen : av.length = methM.sig.parameters.length := by
    have h9 := hd2.2.2
    rw [hsigM] at h9
    rw [hna]
    exact (Option.some.inj h9).symm
  intro T hTh X
  obtain ⟨vm₁, X₁, hstep₁⟩ := X.invokestatic B.1 B.2.2.2.1 (hT _ hlk) hnamed hmethM hstatic hkP hinitP ⟨hd2.1, hd2.2.1⟩ (g := F0 m pc ls (av.reverse ++ rest)) rfl (argsL := av) (rest := rest) hlen rfl (by rw [B.2.1]; exact hd)
  obtain ⟨v, ⟨U', l2, c2, s2⟩, X', ⟨g', mk', t, L, e1, e2, hq, h1, hL9, h2, h3⟩, hsteps⟩ := hK m meth c ⟨T.setVm vm₁, locs, cells, slots⟩ (F0 m pc ls rest) (.invokestatic index) mk av.toArray X₁ rfl (by rw [B.2.2.1]; exact hsz) (by rw [B.2.1]; exact hd) (lv_room hsum) (X₁.named hnamed) ⟨hc, hs, hpre (T.setVm vm₁) hTh X₁.warmed⟩
  dsimp only [Pt.U, Pt.locs, Pt.cells, Pt.slots] at X' e1 e2 h1 h2 h3 hsteps
  subst h1; subst h2; subst h3
  exact ⟨v, (T.setVm vm₁).calling g' mk' av.toArray, t, U', L, hTh, X', hL9, e1, e2, hq, fun target h => hstep₁ _ fun acts => by rw [doInvoke_state]; exact hsteps.trans h⟩
/-- a call of a helper -/
theorem s_callH {z : MethodName} {wz : List Cond} {frz loz na : Nat} {av : List Value} {y : Option (MS × Int32)} {k : MS × Int32 → Option α} (B : xB p R s m args meth c cc nL own (w0 :: x_T) rt fr lo D x_cl (xty g) base) (hho : x_ho base s) (hR : xRn p l e R s m args below meth c nL base pc na z wz frz loz rcS) (hst : st = av.reverse ++ rest)
    (hn1 : rest.all (xng gr) = true) (hn2 : lv.all (fun q => xng gr q.2) = true) (hsum : (rest.map fun v => v.category).sum ≤ 8) (hna : av.length = na)
    (hC : ∀ r0, y = some r0 → CtH l z wz frz loz D x_cl (xty g) base (xwd g) cM gr av M r0.1 (ovI r0.2)) (kk : ∀ r0, y = some r0 → Sn p l e R s m args below meth c nL D x_cl base (xwd g) cM gr a0 k0 fc Z (pc + 3) (.int r0.2 :: rest) lv r0.1 (k r0)) :
    Sn p l e R s m args below meth c nL D x_cl base (xwd g) cM gr a0 k0 fc Z pc st lv M (cal cM M y k) := by
  intro r hr
  cases hy : y with
  | none => rw [hy] at hr; cases hr
  | some r0 =>
    rw [hy] at hr
    have hr : (if (cM M).1 ≤ (cM r0.1).1 ∧ (cM M).2 ≤ (cM r0.1).2 then k r0 else none) = some r := hr
    by_cases hle : (cM M).1 ≤ (cM r0.1).1 ∧ (cM M).2 ≤ (cM r0.1).2
    · rw [if_pos hle] at hr
      obtain ⟨h1, h2, h3⟩ := kk r0 hy r hr
      refine ⟨Nat.le_trans hle.1 h1, Nat.le_trans hle.2 h2, fun aa H locs ls ha hw hl g1 g2 g3 g4 => ?_⟩
      obtain ⟨hP, hD, hS⟩ := hw
      have hM := hC r0 hy aa
      subst hst
      rw [List.map_append, List.map_reverse]
      refine xcall (v := ovI r0.2) (hR H locs ls _ _ _ _ _ _ (av.map (xt aa)) (rest.map (xt aa)) hM (fun a9 U g9 mk q => ⟨xPc.blind a9 U g9 mk q.1, q.2.moved (Vm.Alike.refl U.vm) (fun _ _ => rfl)⟩) trivial (fun U hU hWm => ⟨⟨rfl, va_K.moved hWm.alike B.2.2.2.2.2.2.2.2.2.1, by rw [hU]; exact hP, hD, by rw [hU]; exact Nat.le_trans B.2.2.2.2.2.2.2.2.2.2 hS.1⟩, hho.moved hWm.alike (fun q hq => by rw [hU]; exact hS.2.1 q (Nat.lt_of_lt_of_le hq B.2.2.2.2.2.2.2.2.2.2) (Nat.not_le.mpr hq))⟩) hl.1 (by rw [List.map_map]; simpa [Function.comp_def, xt_cat] using hsum) (by rw [List.length_map]; exact hna) (by omega) (by omega)) hS ?_
      intro bb H1 locs1 hag hP1 hD1 hS1
      have h4 := h3 bb H1 locs1 ls (ha.tr hag) ⟨hP1, hD1, hS1⟩ (by rw [xng_lv hag hn2]; exact hl) (Nat.le_trans g1 hle.1) (Nat.le_trans g2 hle.2) g3 g4
      rw [List.map_cons, xng_st hag hn1] at h4
      exact W.cs (cells' := (cM r0.1).1 - k0.1) (slots' := (cM r0.1).2 - k0.2) (by omega) (by omega) h4
    · rw [if_neg hle] at hr
      cases hr
/-- the script -/
def ldS (xs : Nat → Int32) (L : Nat) (i : Int32) : Option Int32 := if i < 0 ∨ L ≤ i.toNatClampNeg then none else some (xs i.toNatClampNeg)
theorem s_sld {b L : Nat} {xs : Nat → Int32} {i : Int32} {kk : Int32 → Option α} (B : xB p R s m args meth c cc nL own (w0 :: x_T) rt fr lo D x_cl (xty g) base) (hX : va_X b L xs s s.heap) (hbl : b < s.heap.size) (hbA : b < base) (h0 : a0 999 = b) (hgr : gr 999 = false) (hd : decode cc pc = .ok (.iaload, 1))
    (h : ∀ v, ldS xs L i = some v → Sn p l e R s m args below meth c nL D x_cl base (xwd g) cM gr a0 k0 fc Z (pc + 1) (.int v :: st) lv M (kk v)) : Sn p l e R s m args below meth c nL D x_cl base (xwd g) cM gr a0 k0 fc Z pc (.int i :: .ref 999 :: st) lv M ((ldS xs L i).bind kk) := by
  by_cases hi : i < 0 ∨ L ≤ i.toNatClampNeg
  · have e9 : ldS xs L i = none := if_pos hi
    rw [e9]
    exact s_none
  · have e9 : ldS xs L i = some _ := if_neg hi
    have h9 := h _ e9
    rw [e9]
    intro r hr
    obtain ⟨h1, h2, h3⟩ := h9 r hr
    refine ⟨h1, h2, fun aa H locs ls ha hw hl g1 g2 g3 g4 => ?_⟩
    have hab : aa 999 = b := (ha 999 hgr).trans h0
    show W p l e R s m args below meth c H locs _ _ (Z r) (F0 m pc ls (.int i :: .ref (aa 999) :: st.map (xt aa)))
    rw [hab]
    exact va_sld (A := fun q : Nat => base ≤ q) B.1 B.2.1 hX hbl (Nat.not_le.mpr hbA) hw.2.2 (xin hi) hd (h3 aa H locs ls ha hw hl g1 g2 g3 g4)
theorem s_slen {b L : Nat} {xs : Nat → Int32} (B : xB p R s m args meth c cc nL own (w0 :: x_T) rt fr lo D x_cl (xty g) base) (hX : va_X b L xs s s.heap) (hbl : b < s.heap.size) (hbA : b < base) (h0 : a0 999 = b) (hgr : gr 999 = false) (hd : decode cc pc = .ok (.arraylength, 1))
    (h : Sn p l e R s m args below meth c nL D x_cl base (xwd g) cM gr a0 k0 fc Z (pc + 1) (.int (Int32.ofNat L) :: st) lv M x) : Sn p l e R s m args below meth c nL D x_cl base (xwd g) cM gr a0 k0 fc Z pc (.ref 999 :: st) lv M x := by
  intro r hr
  obtain ⟨h1, h2, h3⟩ := h r hr
  refine ⟨h1, h2, fun aa H locs ls ha hw hl g1 g2 g3 g4 => ?_⟩
  have hab : aa 999 = b := (ha 999 hgr).trans h0
  show W p l e R s m args below meth c H locs _ _ (Z r) (F0 m pc ls (.ref (aa 999) :: st.map (xt aa)))
  rw [hab]
  exact va_slen (A := fun q : Nat => base ≤ q) B.1 B.2.1 hX hbl (Nat.not_le.mpr hbA) hw.2.2 hd (h3 aa H locs ls ha hw hl g1 g2 g3 g4)
end LAWK
def x_lf : Unit → Nat × Nat := fun _ => (601024, 7293034)
def x_lZ (below : List Frame) (b : Nat) (s : State) : Unit → State → Prop := fun _ => lw_Z below #[Value.ref b] s
def x_lend (M : MS) : Option Unit := if (cM M).1 ≤ 601024 ∧ (cM M).2 ≤ 7293034 then some () else none
theorem s_lend {p : Program} {l : Launch} {e : Env} {s : State} {m : MethodId} {below : List Frame} {meth : Method} {c : Code} {D : va_G} {g : Nat → ClassId} {gr : Nat → Bool} {az : Nat → Nat} {w0 : Cond} {pc b : Nat} {lv : List (Nat × Value)} {M : MS} (B : xB p room_1 s m #[Value.ref b] meth c code 8 R_Law (w0 :: x_T) ret 12 490 D x_cl (xty g) s.heap.size) (hd : decode code pc = .ok (.ireturn, 1)) :
    Sn p l e room_1 s m #[Value.ref b] below meth c 8 D x_cl s.heap.size (xwd g) cM gr az (0, 0) x_lf (x_lZ below b s) pc [.int 1] lv M (x_lend M) := by
  intro r hr
  unfold x_lend at hr
  by_cases h : (cM M).1 ≤ 601024 ∧ (cM M).2 ≤ 7293034
  · refine ⟨h.1, h.2, fun aa H locs ls ha hw hl g1 g2 g3 g4 => ?_⟩
    refine W.widen (k := 601024) (n := 7293034) (by show (cM M).1 - 0 ≤ 601024; omega) (by show (cM M).2 - 0 ≤ 7293034; omega) ?_
    exact va_forget hw.2.2.2.2 (lw_ret B.1 B.2.1 B.2.2.2.2.2.1 B.2.2.2.2.2.2.1 hd)
  · rw [if_neg h] at hr; cases hr
