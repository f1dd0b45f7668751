/-! constructors: the rules over the growing world -/
theorem ac_bool : Cond.arrayClass .boolean ∈ x_T := xmem 156 (by decide +kernel) rfl
theorem ac_long : Cond.arrayClass .long ∈ x_T := xmem 260 (by decide +kernel) rfl
def fgL (S : LW) (o ci : Nat) : Option (List Value) := match S.1[o]? with
  | some (.inr (c, fs)) => if c = ci then some fs else none
  | _ => none
theorem fgL_at {S : LW} {o ci : Nat} {fs : List Value} (h : fgL S o ci = some fs) : S.1[o]? = some (.inr (ci, fs)) := by
  unfold fgL at h
  split at h
  · rename_i c fs1 he
    split at h
    · rename_i hc
      cases h
      rw [← hc]
      exact he
    · cases h
  · cases h
def ptL (S : LW) (o ci k : Nat) (v : Value) : Option LW := (fgL S o ci).bind fun fs => if k < fs.length then some (S.1.set o (.inr (ci, fs.set k v)), S.2) else none
def gtL (S : LW) (o ci k : Nat) : Option Nat := (fgL S o ci).bind fun fs => match fs[k]? with
  | some (.ref r) => some r
  | _ => none
def iaL (S : LW) (a : Nat) : Option (Nat × (Nat → Int32)) := match S.1[a]? with
  | some (.inl (t, n, .inl f)) => if t = 0 then some (n, f) else none
  | _ => none
theorem iaL_at {S : LW} {a n : Nat} {f : Nat → Int32} (h : iaL S a = some (n, f)) : S.1[a]? = some (.inl (0, n, .inl f)) := by
  unfold iaL at h
  split at h
  · rename_i t n1 f1 he
    split at h
    · rename_i hc
      cases h
      rw [← hc]
      exact he
    · cases h
  · cases h
def stL (S : LW) (a : Nat) (i x : Int32) : Option LW := (iaL S a).bind fun q => if i < 0 ∨ q.1 ≤ i.toNatClampNeg then none else some (S.1.set a (.inl (0, q.1, .inl (upd q.2 i.toNatClampNeg x))), S.2)
def qaL (S : LW) (a : Nat) : Option (Nat × List (Option Nat)) := match S.1[a]? with
  | some (.inl (t, n, .inr (.inr f))) => if t = 3 then some (n, f) else none
  | _ => none
theorem qaL_at {S : LW} {a n : Nat} {f : List (Option Nat)} (h : qaL S a = some (n, f)) : S.1[a]? = some (.inl (3, n, .inr (.inr f))) := by
  unfold qaL at h
  split at h
  · rename_i t n1 f1 he
    split at h
    · rename_i hc
      cases h
      rw [← hc]
      exact he
    · cases h
  · cases h
def sqL (S : LW) (a : Nat) (i : Int32) (v : Nat) : Option LW := (qaL S a).bind fun q => (fgL S v 4).bind fun _ => if i < 0 ∨ q.1 ≤ i.toNatClampNeg ∨ q.2.length ≤ i.toNatClampNeg then none else some (S.1.set a (.inl (3, q.1, .inr (.inr (q.2.set i.toNatClampNeg (some v))))), S.2)
theorem wdL_set (g : Nat → ClassId) (aa : Nat → Nat) (S : LW) (o : Nat) (E : xE) (cs : Nat × Nat) : wdL g aa (S.1.set o E, cs) = (wdL g aa S).set o (aa o, xeE g aa E) := by
  apply List.ext_getElem?
  intro n
  rw [wdL_get, List.getElem?_set, List.getElem?_set, wdL_len, wdL_get]
  by_cases hn : o = n
  · subst hn
    by_cases hl : o < S.1.length <;> simp [hl]
  · simp [hn]
theorem wdL_some {g : Nat → ClassId} {aa : Nat → Nat} {S : LW} {o : Nat} {E : xE} (h : S.1[o]? = some E) : (wdL g aa S)[o]? = some (aa o, xeE g aa E) := by rw [wdL_get, h]; rfl
section LWR
variable {p : Program} {l : Launch} {e : Env} {R : Room} {s : State} {m : MethodId} {args : Array Value} {below : List Frame} {meth : Method} {c : Code} {nL : Nat} {D : va_G} {base n0 : Nat}
variable {α : Type} {g : Nat → ClassId} {a0 : Nat → Nat} {k0 : Nat × Nat} {fc : α → Nat × Nat} {Z : α → State → Prop}
variable {cc : ByteArray} {own : String} {w0 : Cond} {rt : Option FieldType} {fr lo : Nat} {pc : Nat} {st : List Value} {lv : List (Nat × Value)} {S : LW} {x : Option α}
theorem s_putLg {o k ci index : Nat} {v : Value} {C : String} {T : u_T} {ty : FieldType} {ty0 : Nat → FieldType} {kk : LW → Option α} (B : xB p R s m args meth c cc nL own (w0 :: x_T) rt fr lo D x_cl (xty g) base) (hc : xCls x_cl x_T ci C T ty0) (hk : k < x_Nf ci) (hT : (T k).1 = C) (hlk : Cond.fieldLink own index C (T k).2.1 (T k).2.2.1 ∈ x_T) (hfin : (T k).2.2.2 = false ∨ ((T k).2.2.2 = true ∧ meth.name = "<init>" ∧ (T k).1 = own)) (hty : ty0 k = ty) (hnr : ∀ aa : Nat → Nat, narrow ty (xt aa v) = xt aa v) (hfit : ∀ aa : Nat → Nat, fits ty (xt aa v) = true) (hd : decode cc pc = .ok (.putfield index, 3))
    (h : ∀ S1, ptL S o ci k v = some S1 → Sn p l e R s m args below meth c nL D x_cl base (wdL g) cL (grn n0) a0 k0 fc Z (pc + 3) st lv S1 (kk S1)) : Sn p l e R s m args below meth c nL D x_cl base (wdL g) cL (grn n0) a0 k0 fc Z pc (v :: .ref o :: st) lv S ((ptL S o ci k v).bind kk) := by
  cases h1 : fgL S o ci with
  | none =>
    have : ptL S o ci k v = none := by unfold ptL; rw [h1]; rfl
    rw [this]
    exact s_none
  | some fs =>
    by_cases hl : k < fs.length
    · have h2 : ptL S o ci k v = some (S.1.set o (.inr (ci, fs.set k v)), S.2) := by
        unfold ptL; rw [h1]; exact if_pos hl
      have h3 := h _ h2
      rw [h2]
      refine s_putL (S1 := (S.1.set o (.inr (ci, fs.set k v)), S.2)) rfl (fun aa H locs ls Z0 cells slots hP hD hS k9 => ?_) h3
      obtain ⟨c1, c2, c3, c4, c5⟩ := hc
      have he := wdL_some (g := g) (aa := aa) (fgL_at h1)
      have hl2 : k < (fs.map (xt aa)).length := by simpa using hl
      have hw : wdL g aa (S.1.set o (.inr (ci, fs.set k v)), S.2) = (wdL g aa S).set o (aa o, .inr (ci, (fs.map (xt aa)).set k (xt aa v))) := by
        rw [wdL_set]
        show (wdL g aa S).set o (aa o, .inr (ci, (fs.set k v).map (xt aa))) = _
        rw [List.map_set]
      rw [hw] at k9
      rcases hfin with q | ⟨q1, q2, q3⟩
      · exact va_put (q0 := o) (ci := ci) (v := xt aa v) (ty := ty) B.1 B.2.1 B.2.2.2.2.1 (fun w hw => List.mem_cons_of_mem _ (c3 w hw)) ty0 c4 c5 B.2.2.2.1 B.2.2.2.2.2.2.2.2.2.1 hP hD hS he c1 k hk (B.2.2.2.2.1 _ (List.mem_cons_of_mem _ hlk)) (fun y hy => by rw [hT] at hy; exact hy) q (by rw [c4 k hk, hty]) (hnr _) (hfit _) hl2 hd k9
      · exact va_putF (q0 := o) (ci := ci) (v := xt aa v) (ty := ty) B.1 B.2.1 B.2.2.2.2.1 (fun w hw => List.mem_cons_of_mem _ (c3 w hw)) ty0 c4 c5 B.2.2.2.1 B.2.2.2.2.2.2.2.2.2.1 hP hD hS he c1 k hk (B.2.2.2.2.1 _ (List.mem_cons_of_mem _ hlk)) (fun y hy => by rw [hT] at hy; exact hy) q1 q2 q3 (by rw [c4 k hk, hty]) (hnr _) (hfit _) hl2 hd k9
    · have : ptL S o ci k v = none := by unfold ptL; rw [h1]; exact if_neg hl
      rw [this]
      exact s_none
theorem s_getLr {o k ci index : Nat} {C : String} {T : u_T} {ty0 : Nat → FieldType} {kk : Nat → Option α} (B : xB p R s m args meth c cc nL own (w0 :: x_T) rt fr lo D x_cl (xty g) base) (hc : xCls x_cl x_T ci C T ty0) (hk : k < x_Nf ci) (hT : (T k).1 = C) (hlk : Cond.fieldLink own index C (T k).2.1 (T k).2.2.1 ∈ x_T) (hd : decode cc pc = .ok (.getfield index, 3))
    (h : ∀ r, gtL S o ci k = some r → Sn p l e R s m args below meth c nL D x_cl base (wdL g) cL (grn n0) a0 k0 fc Z (pc + 3) (.ref r :: st) lv S (kk r)) : Sn p l e R s m args below meth c nL D x_cl base (wdL g) cL (grn n0) a0 k0 fc Z pc (.ref o :: st) lv S ((gtL S o ci k).bind kk) := by
  cases h0 : gtL S o ci k with
  | none => exact s_none
  | some r =>
    have h3 := h r h0
    cases h1 : fgL S o ci with
    | none => unfold gtL at h0; rw [h1] at h0; cases h0
    | some fs =>
      have hv : fs[k]? = some (.ref r) := by
        unfold gtL at h0
        rw [h1] at h0
        simp only [Option.bind_some] at h0
        split at h0
        · rename_i r1 he
          cases h0
          exact he
        · cases h0
      refine s_lookL (fun aa H locs ls Z0 cells slots hP k9 => ?_) h3
      obtain ⟨c1, c2, c3, c4, c5⟩ := hc
      have he := wdL_some (g := g) (aa := aa) (fgL_at h1)
      exact va_get (q0 := o) (ci := ci) (v := .ref (aa r)) B.1 B.2.1 B.2.2.2.2.1 (fun w hw => List.mem_cons_of_mem _ (c3 w hw)) B.2.2.2.1 B.2.2.2.2.2.2.2.2.2.1 hP he c1 k hk (B.2.2.2.2.1 _ (List.mem_cons_of_mem _ hlk)) (fun y hy => by rw [hT] at hy; exact hy) (by rw [List.getElem?_map, hv]; rfl) hd k9
theorem s_iastL {a : Nat} {i v : Int32} {kk : LW → Option α} (B : xB p R s m args meth c cc nL own (w0 :: x_T) rt fr lo D x_cl (xty g) base) (hd : decode cc pc = .ok (.iastore, 1))
    (h : ∀ S1, stL S a i v = some S1 → Sn p l e R s m args below meth c nL D x_cl base (wdL g) cL (grn n0) a0 k0 fc Z (pc + 1) st lv S1 (kk S1)) : Sn p l e R s m args below meth c nL D x_cl base (wdL g) cL (grn n0) a0 k0 fc Z pc (.int v :: .int i :: .ref a :: st) lv S ((stL S a i v).bind kk) := by
  cases h1 : iaL S a with
  | none =>
    have : stL S a i v = none := by unfold stL; rw [h1]; rfl
    rw [this]
    exact s_none
  | some q =>
    obtain ⟨n, f⟩ := q
    by_cases hi : i < 0 ∨ n ≤ i.toNatClampNeg
    · have : stL S a i v = none := by unfold stL; rw [h1]; exact if_pos hi
      rw [this]
      exact s_none
    · have h2 : stL S a i v = some (S.1.set a (.inl (0, n, .inl (upd f i.toNatClampNeg v))), S.2) := by
        unfold stL; rw [h1]; exact if_neg hi
      have h3 := h _ h2
      rw [h2]
      refine s_putL (S1 := (S.1.set a (.inl (0, n, .inl (upd f i.toNatClampNeg v))), S.2)) rfl (fun aa H locs ls Z0 cells slots hP hD hS k9 => ?_) h3
      have he := wdL_some (g := g) (aa := aa) (iaL_at h1)
      rw [wdL_set] at k9
      exact va_iast B.1 B.2.1 B.2.2.2.2.2.2.2.2.2.1 hP hD hS a 0 he rfl (xin hi) hd k9
def lnL (S : LW) (a : Nat) : Option Int32 := (iaL S a).map fun q => Int32.ofNat q.1
theorem s_alenL {a : Nat} {kk : Int32 → Option α} (B : xB p R s m args meth c cc nL own (w0 :: x_T) rt fr lo D x_cl (xty g) base) (hd : decode cc pc = .ok (.arraylength, 1))
    (h : ∀ v, lnL S a = some v → Sn p l e R s m args below meth c nL D x_cl base (wdL g) cL (grn n0) a0 k0 fc Z (pc + 1) (.int v :: st) lv S (kk v)) : Sn p l e R s m args below meth c nL D x_cl base (wdL g) cL (grn n0) a0 k0 fc Z pc (.ref a :: st) lv S ((lnL S a).bind kk) := by
  cases h1 : iaL S a with
  | none =>
    have : lnL S a = none := by unfold lnL; rw [h1]; rfl
    rw [this]
    exact s_none
  | some q =>
    obtain ⟨n, f⟩ := q
    have h2 : lnL S a = some (Int32.ofNat n) := by unfold lnL; rw [h1]; rfl
    have h3 := h _ h2
    rw [h2]
    refine s_lookL (fun aa H locs ls Z0 cells slots hP k9 => ?_) h3
    have he := wdL_some (g := g) (aa := aa) (iaL_at h1)
    exact va_alen B.1 B.2.1 B.2.2.2.2.2.2.2.2.2.1 hP a 0 (x := (n, .inl f)) he rfl rfl hd k9
theorem s_aastL {a v : Nat} {i : Int32} {kk : LW → Option α} (B : xB p R s m args meth c cc nL own (w0 :: x_T) rt fr lo D x_cl (xty g) base) (hd : decode cc pc = .ok (.aastore, 1))
    (h : ∀ S1, sqL S a i v = some S1 → Sn p l e R s m args below meth c nL D x_cl base (wdL g) cL (grn n0) a0 k0 fc Z (pc + 1) st lv S1 (kk S1)) : Sn p l e R s m args below meth c nL D x_cl base (wdL g) cL (grn n0) a0 k0 fc Z pc (.ref v :: .int i :: .ref a :: st) lv S ((sqL S a i v).bind kk) := by
  cases h1 : qaL S a with
  | none =>
    have : sqL S a i v = none := by unfold sqL; rw [h1]; rfl
    rw [this]
    exact s_none
  | some q =>
    obtain ⟨n, f⟩ := q
    cases h4 : fgL S v 4 with
    | none =>
      have : sqL S a i v = none := by unfold sqL; rw [h1, h4]; rfl
      rw [this]
      exact s_none
    | some vs =>
      by_cases hi : i < 0 ∨ n ≤ i.toNatClampNeg ∨ f.length ≤ i.toNatClampNeg
      · have : sqL S a i v = none := by unfold sqL; rw [h1, h4]; exact if_pos hi
        rw [this]
        exact s_none
      · have h2 : sqL S a i v = some (S.1.set a (.inl (3, n, .inr (.inr (f.set i.toNatClampNeg (some v))))), S.2) := by
          unfold sqL; rw [h1, h4]; exact if_neg hi
        have h3 := h _ h2
        rw [h2]
        refine s_putL (S1 := (S.1.set a (.inl (3, n, .inr (.inr (f.set i.toNatClampNeg (some v))))), S.2)) rfl (fun aa H locs ls Z0 cells slots hP hD hS k9 => ?_) h3
        have he := wdL_some (g := g) (aa := aa) (qaL_at h1)
        have hv := wdL_some (g := g) (aa := aa) (fgL_at h4)
        have hlt : i.toNatClampNeg < f.length := by
          by_cases hq : f.length ≤ i.toNatClampNeg
          · exact absurd (Or.inr (Or.inr hq)) hi
          · omega
        have hup : (fun j => ((f.set i.toNatClampNeg (some v)).getD j none).map aa) = va_up (fun j => (f.getD j none).map aa) i.toNatClampNeg (some (aa v)) := by
          funext j
          unfold va_up
          by_cases hj : j = i.toNatClampNeg
          · subst hj
            rw [List.getD_eq_getElem?_getD, List.getElem?_set_self hlt]
            simp
          · rw [List.getD_eq_getElem?_getD, List.getElem?_set_ne (fun q => hj q.symm), ← List.getD_eq_getElem?_getD]
            simp [hj]
        have hw : wdL g aa (S.1.set a (.inl (3, n, .inr (.inr (f.set i.toNatClampNeg (some v))))), S.2) = (wdL g aa S).set a (aa a, .inl (g 3, n, .inr (.inr (.inr (.inr (va_up (fun j => (f.getD j none).map aa) i.toNatClampNeg (some (aa v)))))))) := by
          rw [wdL_set, ← hup]
          rfl
        rw [hw] at k9
        exact va_astq B.1 B.2.1 B.2.2.2.2.2.2.2.2.2.1 hP hD hS a 3 v 4 he rfl hv rfl (fun q => hi (q.elim Or.inl (fun q => Or.inr (Or.inl q)))) hd k9
theorem s_newZ {n : Int32} {N : Nat} {refs : List Nat} {kk : LW → Option α} (B : xB p R s m args meth c cc nL own (w0 :: x_T) rt fr lo D x_cl (xty g) base) (hd : decode cc pc = .ok (.newarray .boolean, 2)) (hn : ¬ n < 0) (hN : n.toNatClampNeg = N) (hb : N * 1 ≤ 536870912) (h1 : st.all (xin0 refs) = true) (h2 : lv.all (fun q => xin0 refs q.2) = true)
    (k : ∀ S1, nwL n0 S refs (.inl (1, N, .inl (fun _ => 0))) N = some S1 → Sn p l e R s m args below meth c nL D x_cl base (wdL g) cL (grn n0) a0 k0 fc Z (pc + 2) (.ref S.1.length :: st) lv S1 (kk S1)) :
    Sn p l e R s m args below meth c nL D x_cl base (wdL g) cL (grn n0) a0 k0 fc Z pc (.int n :: st) lv S ((nwL n0 S refs (.inl (1, N, .inl (fun _ => 0))) N).bind kk) :=
  s_alloc rfl h1 h2 (fun aa H locs ls Z0 cells slots hP hD hS hc hs k9 => va_newa (atype := .boolean) (N' := N) (a0 := (N, .inl (fun _ => 0))) (ty := .boolean) B.1 B.2.1 (B.2.2.2.2.1 _ (List.mem_cons_of_mem _ ac_bool)) rfl B.2.2.2.2.2.2.2.2.2.1 hP hD hS (fun q hq => Nat.le_trans B.2.2.2.2.2.2.2.2.2.2 hq) (fun cA => rfl) hn hN hb hc hs hd (fun q cA H1 hK2 hP1 hD1 hS1 => by
    have hcA : cA = g 1 := x_cA (tys := []) B.2.2.2.2.2.2.2.2.2.1 hK2 rfl (fun C h => by cases h)
    subst hcA
    exact k9 q H1 hP1 hD1 hS1)) k
theorem s_newJ {n : Int32} {N : Nat} {refs : List Nat} {kk : LW → Option α} (B : xB p R s m args meth c cc nL own (w0 :: x_T) rt fr lo D x_cl (xty g) base) (hd : decode cc pc = .ok (.newarray .long, 2)) (hn : ¬ n < 0) (hN : n.toNatClampNeg = N) (hb : N * 8 ≤ 536870912) (h1 : st.all (xin0 refs) = true) (h2 : lv.all (fun q => xin0 refs q.2) = true)
    (k : ∀ S1, nwL n0 S refs (.inl (2, N, .inr (.inl (fun _ => 0)))) N = some S1 → Sn p l e R s m args below meth c nL D x_cl base (wdL g) cL (grn n0) a0 k0 fc Z (pc + 2) (.ref S.1.length :: st) lv S1 (kk S1)) :
    Sn p l e R s m args below meth c nL D x_cl base (wdL g) cL (grn n0) a0 k0 fc Z pc (.int n :: st) lv S ((nwL n0 S refs (.inl (2, N, .inr (.inl (fun _ => 0)))) N).bind kk) :=
  s_alloc rfl h1 h2 (fun aa H locs ls Z0 cells slots hP hD hS hc hs k9 => va_newa (atype := .long) (N' := N) (a0 := (N, .inr (.inl (fun _ => 0)))) (ty := .long) B.1 B.2.1 (B.2.2.2.2.1 _ (List.mem_cons_of_mem _ ac_long)) rfl B.2.2.2.2.2.2.2.2.2.1 hP hD hS (fun q hq => Nat.le_trans B.2.2.2.2.2.2.2.2.2.2 hq) (fun cA => rfl) hn hN hb hc hs hd (fun q cA H1 hK2 hP1 hD1 hS1 => by
    have hcA : cA = g 2 := x_cA (tys := []) B.2.2.2.2.2.2.2.2.2.1 hK2 rfl (fun C h => by cases h)
    subst hcA
    exact k9 q H1 hP1 hD1 hS1)) k
theorem s_newO {index ci : Nat} {C : String} {T : u_T} {ty0 : Nat → FieldType} {fs : List Value} {refs : List Nat} {kk : LW → Option α} (B : xB p R s m args meth c cc nL own (w0 :: x_T) rt fr lo D x_cl (xty g) base) (hC : xCls x_cl x_T ci C T ty0) (hcl : Cond.classLink own index C ∈ x_T) (hin : Cond.instantiable C (x_Nf ci) ∈ x_T) (hini : Cond.initialized C ∈ x_T) (hfs : ∀ j, j < x_Nf ci → defaultValue (ty0 j) = vp_V fs j) (hz : xrE 0 (.inr (ci, fs)) = true) (hd : decode cc pc = .ok (.new index, 3)) (h1 : st.all (xin0 refs) = true) (h2 : lv.all (fun q => xin0 refs q.2) = true)
    (k : ∀ S1, nwL n0 S refs (.inr (ci, fs)) (x_Nf ci) = some S1 → Sn p l e R s m args below meth c nL D x_cl base (wdL g) cL (grn n0) a0 k0 fc Z (pc + 3) (.ref S.1.length :: st) lv S1 (kk S1)) :
    Sn p l e R s m args below meth c nL D x_cl base (wdL g) cL (grn n0) a0 k0 fc Z pc st lv S ((nwL n0 S refs (.inr (ci, fs)) (x_Nf ci)).bind kk) :=
  s_alloc hz h1 h2 (fun aa H locs ls Z0 cells slots hP hD hS hc hs k9 => by
    obtain ⟨c1, c2, c3, c4, c5⟩ := hC
    have hfm : fs.map (xt aa) = fs := by
      have hz2 : fs.all (xrv 0) = true := hz
      conv => rhs; rw [← List.map_id fs]
      apply List.map_congr_left
      intro v hv
      have := List.all_eq_true.mp hz2 v hv
      cases v with
      | ref q => simp [xrv] at this
      | _ => rfl
    refine va_new (c0 := c) (ci := ci) (fs := fs) B.1 B.2.1 B.2.2.2.2.1 (fun w hw => List.mem_cons_of_mem _ (c3 w hw)) ty0 c4 B.2.2.2.1 (B.2.2.2.2.1 _ (List.mem_cons_of_mem _ hcl)) (B.2.2.2.2.1 _ (List.mem_cons_of_mem _ hin)) (B.2.2.2.2.1 _ (List.mem_cons_of_mem _ hini)) B.2.2.2.2.2.2.2.2.2.1 hP hD hS (fun q hq => Nat.le_trans B.2.2.2.2.2.2.2.2.2.2 hq) c1 hfs hc hs hd (fun q H1 hP1 hD1 hS1 => ?_)
    have hw : xeE g aa (.inr (ci, fs)) = .inr (ci, fs) := by
      show (Sum.inr (ci, fs.map (xt aa)) : va_E) = _
      rw [hfm]
    rw [hw] at k9
    exact k9 q H1 hP1 hD1 hS1) k
theorem s_newQ {n : Int32} {N index : Nat} {refs : List Nat} {kk : LW → Option α} (B : xB p R s m args meth c cc nL own (w0 :: x_T) rt fr lo D x_cl (xty g) base) (hao : va_AO x_RM s) (hcl : Cond.classLink own index x_RM ∈ x_T) (hd : decode cc pc = .ok (.anewarray index, 3)) (hn : ¬ n < 0) (hN : n.toNatClampNeg = N) (hb : N * 4 ≤ 536870912) (h1 : st.all (xin0 refs) = true) (h2 : lv.all (fun q => xin0 refs q.2) = true)
    (k : ∀ S1, nwL n0 S refs (.inl (3, N, .inr (.inr (List.replicate N none)))) N = some S1 → Sn p l e R s m args below meth c nL D x_cl base (wdL g) cL (grn n0) a0 k0 fc Z (pc + 3) (.ref S.1.length :: st) lv S1 (kk S1)) :
    Sn p l e R s m args below meth c nL D x_cl base (wdL g) cL (grn n0) a0 k0 fc Z pc (.int n :: st) lv S ((nwL n0 S refs (.inl (3, N, .inr (.inr (List.replicate N none)))) N).bind kk) :=
  s_alloc (by show (List.replicate N none).all _ = true; simp [List.all_eq_true]) h1 h2 (fun aa H locs ls Z0 cells slots hP hD hS hc hs k9 => va_newq (N' := N) B.1 B.2.1 B.2.2.2.1 (B.2.2.2.2.1 _ (List.mem_cons_of_mem _ hcl)) hao B.2.2.2.2.2.2.2.2.2.1 hP hD hS (fun q hq => Nat.le_trans B.2.2.2.2.2.2.2.2.2.2 hq) hn hN hb hc hs hd (fun q cA H1 hK2 hP1 hD1 hS1 => by
    obtain ⟨_, _, _, _, _, h5⟩ := (hK2.2 4 (cA, .object x_RM) rfl).2
    obtain ⟨_, _, _, _, _, h6⟩ := (B.2.2.2.2.2.2.2.2.2.1.2 3 (g 3, .object x_RM) rfl).2
    have hcA : cA = g 3 := Option.some.inj (h5.symm.trans h6)
    subst hcA
    have hfn : (fun j => ((List.replicate N (none : Option Nat)).getD j none).map aa) = fun _ => none := by
      funext j
      rw [List.getD_eq_getElem?_getD, List.getElem?_replicate]
      by_cases hj : j < N <;> simp [hj]
    have hw : xeE g aa (.inl (3, N, .inr (.inr (List.replicate N none)))) = .inl (g 3, N, .inr (.inr (.inr (.inr (fun _ => none))))) := by
      rw [← hfn]; rfl
    rw [hw] at k9
    exact k9 q H1 hP1 hD1 hS1)) k
end LWR
