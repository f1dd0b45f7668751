/-! constructors: their contracts, and a constructor called in another -/
def x_nst : List (String × Nat × MethodName × String) := [(R_Terms, 50, ⟨R_Row, "<init>", "()V"⟩, R_D), (R_Terms, 63, ⟨R_Gathering, "<init>", "()V"⟩, R_D), (R_Gathering, 11, ⟨R_Row, "<init>", "()V"⟩, R_D), (R_Explorer, 21, ⟨R_Machine, "<init>", "()V"⟩, R_D), (R_D, 29, ⟨R_WordCheck, "<init>", "()V"⟩, R_D), (R_WordCheck, 20, ⟨R_Row, "<init>", "()V"⟩, R_D), (R_D, 36, ⟨R_Splitter, "<init>", "()V"⟩, R_D), (R_D, 43, ⟨R_Comparison, "<init>", "()V"⟩, R_D), (R_D, 50, ⟨R_WordCounts, "<init>", "()V"⟩, R_D)]
def xN (U : State) : Prop := (∀ q ∈ x_nst, va_Nw (.methodLinkNest q.1 q.2.1 q.2.2.1 q.2.2.2) U) ∧ va_AO x_RM U
theorem xN.warm {s U : State} (hW : s.WarmedH U.vm) (h : xN s) : xN U := ⟨fun q hq => va_Nw.warmM hW (h.1 q hq), va_AO.moved hW.alike h.2⟩
def xPcN (D : va_G) (g : Nat → ClassId) (base : Nat) (aa : Nat → Nat) (av : List Value) (S : LW) : Array Value → State → Prop := fun a U => xPc D x_cl (xty g) base (wdL g) aa av S a U ∧ xN U
theorem xPcN.blind {D : va_G} {g : Nat → ClassId} {base : Nat} {aa : Nat → Nat} {av : List Value} {S : LW} : FrameBlind (xPcN D g base aa av S) := by
  intro a U g1 mk q
  exact ⟨xPc.blind a U g1 mk q.1, fun w hw => va_Nw.same rfl (u := U) rfl (q.2.1 w hw), va_AO.moved (u := U) (Vm.Alike.refl U.vm) q.2.2⟩
def CtN (l : Launch) (z : MethodName) (ws : List Cond) (fr lo : Nat) (D : va_G) (g : Nat → ClassId) (base : Nat) (gr : Nat → Bool) (av : List Value) (S S1 : LW) : Prop :=
  ∀ aa : Nat → Nat, Met l z ws { frames := fr, cells := (cL S1).1 - (cL S).1, slots := (cL S1).2 - (cL S).2, locals := lo } (xPcN D g base aa av S) (xQc D x_cl (xty g) base (wdL g) gr aa S1 none) ((cL S1).1 - (cL S).1) ((cL S1).2 - (cL S).2) (fun q : Nat => base ≤ q)
theorem x_metN {l : Launch} {z : MethodName} {cc : ByteArray} {nL : Nat} {T : List Cond} {fr lo : Nat} {D : va_G} {base : Nat} {g : Nat → ClassId} {gr : Nat → Bool}
    {av : List Value} {S : LW} {x : Option (LW × Unit)} (hy : plainName z.cls = true) (hlen : (lg_sl av).length ≤ nL)
    (body : ∀ (p : Program) (e : Env) (R : Room) (s : State) (m : MethodId) (args : Array Value) (below : List Frame) (meth : Method) (c : Code) (a0 : Nat → Nat), xB p R s m args meth c cc nL z.cls (Cond.code z cc nL none :: T) none fr lo D x_cl (xty g) base → xN s → meth.name = z.name →
      Sn p l e R s m args below meth c nL D x_cl base (wdL g) cL gr a0 (cL S) (xfc cL) (xZ below args s D x_cl (xty g) base (wdL g) cL gr a0 (cL S) ovU) 0 [] (lv_args 0 av) S x)
    (r : LW × Unit) (hr : x = some r) : CtN l z (Cond.code z cc nL none :: T) fr lo D g base gr av S r.1 := by
  intro aa
  refine Met.ofW (cc := cc) (maxL := nL) (ret := none) hy rfl ?_
  intro p e s m args below meth c s₁ B hml hv
  obtain ⟨⟨rfl, hK, hP, hD, hbase⟩, hN⟩ := hv
  have hown : s.vm.findClass z.cls = some m.cls := findClass_of_methodNamed B.named
  have hts := atoms_spec (ws := Cond.code z cc nL none :: T) B.pre
  obtain ⟨h1, h2, h3⟩ := body p e (headSpec (Cond.code z cc nL none :: T) { frames := fr, cells := (cL r.1).1 - (cL S).1, slots := (cL r.1).2 - (cL S).2, locals := lo }).room s m _ below meth c aa ⟨B.exec, B.bytes, hml, hown, hts, B.returns, B.notSynchronized, rfl, rfl, hK, hbase⟩ hN (name_of_methodNamed B.named B.method).1 r hr
  have hl := lv_entry (av.map (xt aa)) (n := nL) (by rw [xl_len]; exact hlen)
  rw [lg_entry_eq]
  rw [xl_args] at hl
  have h4 := h3 aa s.heap [] _ xag.rf ⟨hP, hD, va_S.rf⟩ hl (Nat.le_refl _) (Nat.le_refl _) rfl rfl
  rw [Nat.sub_self, Nat.sub_self] at h4
  exact h4
theorem nwL_out {n0 : Nat} {S S1 : LW} {refs : List Nat} {E : xE} {N : Nat} (h : nwL n0 S refs E N = some S1) : S1 = (S.1 ++ [E], (S.2.1 + 1, S.2.2 + N)) ∧ n0 ≤ S.1.length ∧ S.1.length < 500 ∧ (∀ k ∈ refs, k < S.1.length ∨ 500 ≤ k) := by
  unfold nwL at h
  split at h
  · rename_i hc
    cases h
    exact ⟨rfl, hc.1.1, hc.1.2, fun k hk => by simpa using List.all_eq_true.mp hc.2.2 k hk⟩
  · cases h
section CTK
variable {p : Program} {l : Launch} {e : Env} {R : Room} {s : State} {m : MethodId} {args : Array Value} {below : List Frame} {meth : Method} {c : Code} {nL : Nat} {D : va_G} {base n0 : Nat}
variable {α : Type} {g : Nat → ClassId} {gr : Nat → Bool} {a0 : Nat → Nat} {k0 : Nat × Nat} {fc : α → Nat × Nat} {Z : α → State → Prop}
variable {cc : ByteArray} {own : String} {w0 : Cond} {Ts : List Cond} {rt : Option FieldType} {fr lo : Nat} {pc : Nat} {st rest : List Value} {lv : List (Nat × Value)} {S : LW} {x : Option α}
theorem lk_IN2 {z : MethodName} {host : String} {index n maxL frz loz : Nat} {bytes : ByteArray} {wz wz' : List Cond} (B : xB p R s m args meth c cc nL own Ts rt fr lo D x_cl (xty g) base) (hd : decode cc pc = .ok (.invokespecial index, 3)) (hG : GoodIn Ts wz) (hst : (Cond.instanceMethod z) ∈ Ts) (hin : (Cond.initialized z.cls) ∈ Ts) (hlk : va_Nw (Cond.methodLinkNest own index z host) s) (hw : wz = Cond.code z bytes maxL none :: wz') (hi : z.name = "<init>")
    (hd2 : z.cls ≠ "java/lang/invoke/MethodHandle" ∧ z.cls ≠ "java/lang/invoke/VarHandle" ∧ (parseMethodDescriptor z.desc).map (fun d => d.parameters.length) = some n) (hF : frz + 1 ≤ fr) (hL : 8 + (maxL + 11) + loz ≤ lo) :
    xRn p l e R s m args below meth c nL base pc (n + 1) z wz frz loz rcI := by
  intro H locs ls cells slots mc ms Pc Qc av rest hM hbl hrc hpre hsz hsum hna hc hs
  obtain ⟨b, As, rfl⟩ := hrc
  have ht := B.2.2.2.2.1
  exact va_runIN (As := As) (rest := rest) (n := n) (b := b) ⟨B.1, B.2.1, B.2.2.1, B.2.2.2.1, ht⟩ hM ⟨va_cnB n ht hG hw rfl rfl hlk (ht _ hin) hd2 ⟨by rw [B.2.2.2.2.2.2.2.1]; exact hF, by rw [B.2.2.2.2.2.2.2.2.1]; exact hL⟩, hi, ht _ hst⟩ ⟨hbl, hpre⟩ rfl (by simpa using hna) hsz (xrev _ _ _) (lv_room hsum) hd ⟨hc, hs⟩
theorem s_callN {gr1 : Nat → Bool} {z : MethodName} {wz : List Cond} {frz loz na : Nat} {rc : Heap → List Value → Prop} {av : List Value} {y : Option (LW × Unit)} {k : LW × Unit → Option α} (B : xB p R s m args meth c cc nL own Ts rt fr lo D x_cl (xty g) base) (hN : xN s) (hR : xRn p l e R s m args below meth c nL base pc na z wz frz loz rc) (hst : st = av.reverse ++ rest)
    (hrc : ∀ (aa : Nat → Nat) (H : Heap), va_P D x_cl (wdL g aa S) H → rc H (av.map (xt aa))) (hsub : ∀ k, gr k = false → gr1 k = false) (hn1 : rest.all (xng gr1) = true) (hn2 : lv.all (fun q => xng gr1 q.2) = true) (hsum : (rest.map fun v => v.category).sum ≤ 8) (hna : av.length = na)
    (hC : ∀ r0, y = some r0 → CtN l z wz frz loz D g base gr1 av S r0.1) (kk : ∀ r0, y = some r0 → Sn p l e R s m args below meth c nL D x_cl base (wdL g) cL gr a0 k0 fc Z (pc + 3) rest lv r0.1 (k r0)) :
    Sn p l e R s m args below meth c nL D x_cl base (wdL g) cL gr a0 k0 fc Z pc st lv S (cal cL S y k) := by
  intro r hr
  cases hy : y with
  | none => rw [hy] at hr; cases hr
  | some r0 =>
    rw [hy] at hr
    have hr : (if (cL S).1 ≤ (cL r0.1).1 ∧ (cL S).2 ≤ (cL r0.1).2 then k r0 else none) = some r := hr
    by_cases hle : (cL S).1 ≤ (cL r0.1).1 ∧ (cL S).2 ≤ (cL r0.1).2
    · rw [if_pos hle] at hr
      obtain ⟨h1, h2, h3⟩ := kk r0 hy r hr
      refine ⟨Nat.le_trans hle.1 h1, Nat.le_trans hle.2 h2, fun aa H locs ls ha hw hl g1 g2 g3 g4 => ?_⟩
      obtain ⟨hP, hD, hS⟩ := hw
      have hM := hC r0 hy aa
      subst hst
      rw [List.map_append, List.map_reverse]
      refine xcall (v := none) (hR H locs ls _ _ _ _ _ _ (av.map (xt aa)) (rest.map (xt aa)) hM xPcN.blind (hrc aa H hP) (fun U hU hWm => ⟨⟨rfl, va_K.moved hWm.alike B.2.2.2.2.2.2.2.2.2.1, by rw [hU]; exact hP, hD, by rw [hU]; exact Nat.le_trans B.2.2.2.2.2.2.2.2.2.2 hS.1⟩, hN.warm hWm⟩) hl.1 (by rw [List.map_map]; simpa [Function.comp_def, xt_cat] using hsum) (by rw [List.length_map]; exact hna) (by omega) (by omega)) hS ?_
      intro bb H1 locs1 hag hP1 hD1 hS1
      have h4 := h3 bb H1 locs1 ls (ha.tr (fun k hk => hag k (hsub k hk))) ⟨hP1, hD1, hS1⟩ (by rw [xng_lv hag hn2]; exact hl) (Nat.le_trans g1 hle.1) (Nat.le_trans g2 hle.2) g3 g4
      rw [xng_st hag hn1] at h4
      refine W.cs (cells' := (cL r0.1).1 - k0.1) (slots' := (cL r0.1).2 - k0.2) (by omega) (by omega) ?_
      exact h4
    · rw [if_neg hle] at hr
      cases hr
theorem s_newC {index ci frz loz : Nat} {C : String} {T : u_T} {ty0 : Nat → FieldType} {fs : List Value} {refs : List Nat} {z : MethodName} {wz : List Cond} {y : LW → Option (LW × Unit)} {kk : LW × Unit → Option α} (B : xB p R s m args meth c cc nL own (w0 :: x_T) rt fr lo D x_cl (xty g) base) (hN : xN s) (hC : xCls x_cl x_T ci C T ty0) (hcl : Cond.classLink own index C ∈ x_T) (hin : Cond.instantiable C (x_Nf ci) ∈ x_T) (hini : Cond.initialized C ∈ x_T) (hfs : ∀ j, j < x_Nf ci → defaultValue (ty0 j) = vp_V fs j) (hz : xrE 0 (.inr (ci, fs)) = true)
    (hd : decode cc pc = .ok (.new index, 3)) (hd2 : decode cc (pc + 3) = .ok (.dup, 1)) (hR : xRn p l e R s m args below meth c nL base (pc + 3 + 1) 1 z wz frz loz rcI) (h1 : st.all (xin0 refs) = true) (h2 : lv.all (fun q => xin0 refs q.2) = true) (hsum : ((Value.ref 0 :: st).map fun v => v.category).sum ≤ 8)
    (hCt : ∀ S1 r0, y S1 = some r0 → CtN l z wz frz loz D g base (grn S1.1.length) [.ref S.1.length] S1 r0.1)
    (k : ∀ r0 : LW × Unit, Sn p l e R s m args below meth c nL D x_cl base (wdL g) cL (grn n0) a0 k0 fc Z (pc + 3 + 1 + 3) (.ref S.1.length :: st) lv r0.1 (kk r0)) :
    Sn p l e R s m args below meth c nL D x_cl base (wdL g) cL (grn n0) a0 k0 fc Z pc st lv S ((nwL n0 S refs (.inr (ci, fs)) (x_Nf ci)).bind fun S1 => cal cL S1 (y S1) kk) := by
  refine s_newO B hC hcl hin hini hfs hz hd h1 h2 (fun S1 hS1 => ?_)
  obtain ⟨e1, c1, c2, c3⟩ := nwL_out hS1
  have hlen : S1.1.length = S.1.length + 1 := by rw [e1]; simp
  have hx : ∀ v : Value, xin0 refs v = true → xng (grn S1.1.length) v = true := by
    intro v hv
    cases v with
    | ref k =>
      have hk : k ∈ refs := by simpa [xin0] using hv
      have h9 : ¬ (S1.1.length ≤ k ∧ k < 500) := by
        rw [hlen]
        intro q
        rcases c3 k hk with h | h
        · exact absurd (Nat.le_trans q.1 (Nat.le_of_lt h)) (by omega)
        · exact absurd q.2 (Nat.not_lt.mpr h)
      simp [xng, grn, h9]
    | _ => rfl
  refine s_dup B hd2 rfl ?_
  refine s_callN (gr1 := grn S1.1.length) (av := [.ref S.1.length]) (rest := .ref S.1.length :: st) B hN hR rfl (fun aa H _ => ⟨_, [], rfl⟩) (fun q hq => ?_) ?_ ?_ hsum rfl (fun r0 hr0 => hCt S1 r0 hr0) (fun r0 _ => k r0)
  · have h9 : ¬ (n0 ≤ q ∧ q < 500) := by simpa [grn] using hq
    have : ¬ (S1.1.length ≤ q ∧ q < 500) := by omega
    simp [grn, this]
  · rw [List.all_cons, Bool.and_eq_true]
    refine ⟨?_, List.all_eq_true.mpr (fun v hv => hx v (List.all_eq_true.mp h1 v hv))⟩
    have : ¬ (S1.1.length ≤ S.1.length ∧ S.1.length < 500) := by omega
    simp [xng, grn, this]
  · exact List.all_eq_true.mpr (fun v hv => hx v.2 (List.all_eq_true.mp h2 v hv))
theorem oi_im : Cond.instanceMethod Lib.objectInit ∈ x_T := xmem 26 (by decide +kernel) rfl
theorem oi_cd : Cond.code Lib.objectInit ⟨#[0xb1]⟩ 1 none ∈ x_T := xmem 27 rfl rfl
theorem s_objI {o idx : Nat} (B : xB p R s m args meth c cc nL own (w0 :: x_T) rt fr lo D x_cl (xty g) base) (hlk : Cond.methodLink own idx Lib.objectInit ∈ x_T) (hd : decode cc pc = .ok (.invokespecial idx, 3)) (hF : 1 ≤ fr) (hL : 20 ≤ lo)
    (k : Sn p l e R s m args below meth c nL D x_cl base (wdL g) cL gr a0 k0 fc Z (pc + 3) [] lv S x) : Sn p l e R s m args below meth c nL D x_cl base (wdL g) cL gr a0 k0 fc Z pc [.ref o] lv S x :=
  s_step (fun aa H locs ls Z0 cells slots hl k9 => W.objInit (a := aa o) (rest := []) B.1 B.2.1 B.2.2.2.1 (B.2.2.2.2.1 _ (List.mem_cons_of_mem _ hlk)) (B.2.2.2.2.1 _ (List.mem_cons_of_mem _ oi_im)) (B.2.2.2.2.1 _ (List.mem_cons_of_mem _ oi_cd)) rfl (by rw [B.2.2.1]; exact hl.1) rfl hd (by rw [B.2.2.2.2.2.2.2.1]; exact hF) (by rw [B.2.2.2.2.2.2.2.2.1]; show 2 * 0 + 0 + 12 ≤ lo; omega) k9) k
end CTK
def mL_fill_5b (k5 : Nat × Int32 × Int32 × Int32 × LW → Option (LW × Unit)) (l0 : Nat) (l1 : Int32) (l2 : Int32) (l3 : Int32) (S : LW) : Option (LW × Unit) :=
  if l3 ≤ l2 then (some (S, ())) else ((stL S l0 l2 l1).bind fun S1 =>
  k5 (l0, l1, (l2 + (1:Int32)), l3, S1))
def mL_fill_5 (i : Nat × Int32 × Int32 × Int32 × LW) : Option (LW × Unit) := fx (fun (k : Nat × Int32 × Int32 × Int32 × LW → Option (LW × Unit)) (i : Nat × Int32 × Int32 × Int32 × LW) => mL_fill_5b k i.1 i.2.1 i.2.2.1 i.2.2.2.1 i.2.2.2.2) FU i
def mL_fill (a0 : Nat) (a1 : Int32) (S : LW) : Option (LW × Unit) := (lnL S a0).bind fun n => mL_fill_5 (a0, a1, (0:Int32), n, S)
theorem grn5 (k : Nat) : grn 500 k = false := by unfold grn; exact decide_eq_false (by omega)
theorem xng5 (v : Value) : xng (grn 500) v = true := by
  cases v with
  | ref k => show (!(grn 500 k)) = true; rw [grn5]; rfl
  | _ => rfl
section LFL
variable {p : Program} {l : Launch} {e : Env} {R : Room} {s : State} {m : MethodId} {args : Array Value} {below : List Frame} {meth : Method} {c : Code} {D : va_G} {base n0 : Nat} {g : Nat → ClassId} {az : Nat → Nat} {kz : Nat × Nat}
theorem tL_fill_5b {k5 : Nat × Int32 × Int32 × Int32 × LW → Option (LW × Unit)} (B : xB p R s m args meth c b_Arr_fill 4 R_Arr (Cond.code y_Arr_fill b_Arr_fill 4 none :: x_T) none 0 0 D x_cl (xty g) base) (hk5 : ∀ (l0 : Nat) (l1 : Int32) (l2 : Int32) (l3 : Int32) (S : LW), Sn p l e R s m args below meth c 4 D x_cl base (wdL g) cL (grn 500) az kz (xfc cL) (xZ below args s D x_cl (xty g) base (wdL g) cL (grn 500) az kz ovU) 5 [] [(0, .ref l0), (1, .int l1), (2, .int l2), (3, .int l3)] S (k5 (l0, l1, l2, l3, S))) (l0 : Nat) (l1 : Int32) (l2 : Int32) (l3 : Int32) (S : LW) : Sn p l e R s m args below meth c 4 D x_cl base (wdL g) cL (grn 500) az kz (xfc cL) (xZ below args s D x_cl (xty g) base (wdL g) cL (grn 500) az kz ovU) 5 [] [(0, .ref l0), (1, .int l1), (2, .int l2), (3, .int l3)] S (mL_fill_5b k5 l0 l1 l2 l3 S) := by
  unfold mL_fill_5b
  refine s_iload_n B d_Arr_fill_5 rfl ?_
  refine s_iload_n B d_Arr_fill_6 rfl ?_
  refine s_icmp_ge B d_Arr_fill_7 rfl (fun _ => ?_) (fun _ => ?_)
  · exact s_vret B d_Arr_fill_20
  · refine s_aload_n B d_Arr_fill_10 rfl ?_
    refine s_iload_n B d_Arr_fill_11 rfl ?_
    refine s_iload_n B d_Arr_fill_12 rfl ?_
    refine s_iastL B d_Arr_fill_13 (fun S1 _ => ?_)
    refine s_iinc (w := (1:Int32)) B d_Arr_fill_14 rfl (by decide) (by decide) ?_
    refine s_goto B d_Arr_fill_17 rfl ?_
    refine s_pick (lv1 := [(0, .ref l0), (1, .int l1), (2, .int (l2 + (1:Int32))), (3, .int l3)]) [0, 1, 2, 3] rfl ?_
    exact hk5 l0 l1 (l2 + (1:Int32)) l3 S1
theorem tL_fill_5 (B : xB p R s m args meth c b_Arr_fill 4 R_Arr (Cond.code y_Arr_fill b_Arr_fill 4 none :: x_T) none 0 0 D x_cl (xty g) base) (l0 : Nat) (l1 : Int32) (l2 : Int32) (l3 : Int32) (S : LW) : Sn p l e R s m args below meth c 4 D x_cl base (wdL g) cL (grn 500) az kz (xfc cL) (xZ below args s D x_cl (xty g) base (wdL g) cL (grn 500) az kz ovU) 5 [] [(0, .ref l0), (1, .int l1), (2, .int l2), (3, .int l3)] S (mL_fill_5 (l0, l1, l2, l3, S)) := by
  have q : ∀ (F : Nat) (i : Nat × Int32 × Int32 × Int32 × LW), Sn p l e R s m args below meth c 4 D x_cl base (wdL g) cL (grn 500) az kz (xfc cL) (xZ below args s D x_cl (xty g) base (wdL g) cL (grn 500) az kz ovU) 5 [] [(0, .ref i.1), (1, .int i.2.1), (2, .int i.2.2.1), (3, .int i.2.2.2.1)] i.2.2.2.2 (fx (fun (k : Nat × Int32 × Int32 × Int32 × LW → Option (LW × Unit)) (i : Nat × Int32 × Int32 × Int32 × LW) => mL_fill_5b k i.1 i.2.1 i.2.2.1 i.2.2.2.1 i.2.2.2.2) F i) := by
    intro F
    induction F with
    | zero => intro i; exact s_none
    | succ F ih => intro i; exact tL_fill_5b B (fun l0 l1 l2 l3 S => ih (l0, l1, l2, l3, S)) i.1 i.2.1 i.2.2.1 i.2.2.2.1 i.2.2.2.2
  exact q FU (l0, l1, l2, l3, S)
theorem tL_fill (B : xB p R s m args meth c b_Arr_fill 4 R_Arr (Cond.code y_Arr_fill b_Arr_fill 4 none :: x_T) none 0 0 D x_cl (xty g) base) (a0 : Nat) (a1 : Int32) (S : LW) : Sn p l e R s m args below meth c 4 D x_cl base (wdL g) cL (grn 500) az kz (xfc cL) (xZ below args s D x_cl (xty g) base (wdL g) cL (grn 500) az kz ovU) 0 [] [(0, .ref a0), (1, .int a1)] S (mL_fill a0 a1 S) := by
  unfold mL_fill
  refine s_iconst (v := (0:Int32)) B d_Arr_fill_0 (by decide) ?_
  refine s_istore_n B d_Arr_fill_1 (by decide) ?_
  refine s_aload_n B d_Arr_fill_2 rfl ?_
  refine s_alenL B d_Arr_fill_3 (fun n _ => ?_)
  refine s_istore_n B d_Arr_fill_4 (by decide) ?_
  refine s_pick (lv1 := [(0, .ref a0), (1, .int a1), (2, .int (0:Int32)), (3, .int n)]) [0, 1, 2, 3] rfl ?_
  exact tL_fill_5 B a0 a1 (0:Int32) n S
theorem ctL_fill {l : Launch} {D : va_G} {base : Nat} {g : Nat → ClassId} (a0 : Nat) (a1 : Int32) (S : LW) (r : LW × Unit) (hr : mL_fill a0 a1 S = some r) : Ct l y_Arr_fill (Cond.code y_Arr_fill b_Arr_fill 4 none :: x_T) 0 0 D x_cl (xty g) base (wdL g) cL (grn 500) [.ref a0, .int a1] S r.1 (ovU r.2) :=
  x_met (ov := ovU) (by decide) (Nat.le_of_ble_eq_true rfl) (fun p e R s m args below meth c az B => tL_fill B a0 a1 S) r hr
end LFL
