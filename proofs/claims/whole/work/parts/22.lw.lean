/-! constructors: a world that grows, as a list of cells in the order in which they were made; references are places of the list -/
abbrev xE : Type := (Nat × Nat × ((Nat → Int32) ⊕ (Nat → Int64) ⊕ List (Option Nat))) ⊕ (Nat × List Value)
abbrev LW : Type := List xE × (Nat × Nat)
def cL (S : LW) : Nat × Nat := S.2
def xeE (g : Nat → ClassId) (aa : Nat → Nat) (E : xE) : va_E := match E with
  | .inl (t, n, .inl f) => .inl (g t, n, .inl f)
  | .inl (t, n, .inr (.inl f)) => .inl (g t, n, .inr (.inl f))
  | .inl (t, n, .inr (.inr f)) => .inl (g t, n, .inr (.inr (.inr (.inr (fun j => (f.getD j none).map aa)))))
  | .inr (ci, fs) => .inr (ci, fs.map (xt aa))
def wdL (g : Nat → ClassId) (aa : Nat → Nat) (S : LW) : va_W := S.1.zipIdx.map (fun q => (aa q.2, xeE g aa q.1))
theorem wdL_get (g : Nat → ClassId) (aa : Nat → Nat) (S : LW) (n : Nat) : (wdL g aa S)[n]? = S.1[n]?.map (fun E => (aa n, xeE g aa E)) := by
  unfold wdL
  rw [List.getElem?_map, List.getElem?_zipIdx]
  cases S.1[n]? with
  | none => rfl
  | some E => simp
theorem wdL_len (g : Nat → ClassId) (aa : Nat → Nat) (S : LW) : (wdL g aa S).length = S.1.length := by unfold wdL; simp
def xrv (n : Nat) (v : Value) : Bool := match v with
  | .ref k => decide (k < n)
  | _ => true
def xrE (n : Nat) (E : xE) : Bool := match E with
  | .inl (_, _, .inr (.inr f)) => f.all (fun o => match o with
    | some k => decide (k < n)
    | none => true)
  | .inl _ => true
  | .inr (_, fs) => fs.all (xrv n)
def xok (S : LW) : Bool := S.1.all (xrE S.1.length)
theorem xrv_xt {n : Nat} {aa bb : Nat → Nat} (h : ∀ k, k < n → bb k = aa k) {v : Value} (hv : xrv n v = true) : xt bb v = xt aa v := by
  cases v with
  | ref k =>
    have : k < n := by simpa [xrv] using hv
    show Value.ref (bb k) = Value.ref (aa k)
    rw [h k this]
  | _ => rfl
theorem xrE_eq {g : Nat → ClassId} {n : Nat} {aa bb : Nat → Nat} (h : ∀ k, k < n → bb k = aa k) {E : xE} (hE : xrE n E = true) : xeE g bb E = xeE g aa E := by
  obtain ⟨t, l, f | f | f⟩ | ⟨ci, fs⟩ := E
  · rfl
  · rfl
  · show (Sum.inl (g t, l, .inr (.inr (.inr (.inr (fun j => (f.getD j none).map bb))))) : va_E) = .inl (g t, l, .inr (.inr (.inr (.inr (fun j => (f.getD j none).map aa)))))
    have hE2 : f.all (fun o => match o with
      | some k => decide (k < n)
      | none => true) = true := hE
    suffices hf : (fun j => (f.getD j none).map bb) = (fun j => (f.getD j none).map aa) by rw [hf]
    funext j
    by_cases hj : j < f.length
    · have hm : f[j] ∈ f := List.getElem_mem hj
      have := List.all_eq_true.mp hE2 _ hm
      rw [List.getD_eq_getElem?_getD, List.getElem?_eq_getElem hj]
      simp only [Option.getD_some]
      cases hv : f[j] with
      | none => rfl
      | some k =>
        rw [hv] at this
        simp only [decide_eq_true_eq] at this
        simp [h k this]
    · rw [List.getD_eq_getElem?_getD, List.getElem?_eq_none (by omega)]
      rfl
  · show (Sum.inr (ci, fs.map (xt bb)) : va_E) = .inr (ci, fs.map (xt aa))
    congr 2
    apply List.map_congr_left
    intro v hv
    exact xrv_xt h (List.all_eq_true.mp hE v hv)
theorem wdL_eq {g : Nat → ClassId} {aa bb : Nat → Nat} {S : LW} (hok : xok S = true) (h : ∀ k, k < S.1.length → bb k = aa k) : wdL g bb S = wdL g aa S := by
  apply List.ext_getElem?
  intro n
  rw [wdL_get, wdL_get]
  cases hn : S.1[n]? with
  | none => rfl
  | some E =>
    have hlt := (List.getElem?_eq_some_iff.mp hn).1
    simp only [Option.map_some]
    rw [h n hlt, xrE_eq h (List.all_eq_true.mp hok E (List.mem_of_getElem? hn))]
def grn (n0 k : Nat) : Bool := decide (n0 ≤ k ∧ k < 500)
def nwL (n0 : Nat) (S : LW) (refs : List Nat) (E : xE) (N : Nat) : Option LW := if (n0 ≤ S.1.length ∧ S.1.length < 500) ∧ xok S = true ∧ refs.all (fun k => decide (k < S.1.length ∨ 500 ≤ k)) = true then some (S.1 ++ [E], (S.2.1 + 1, S.2.2 + N)) else none
def xin0 (refs : List Nat) (v : Value) : Bool := match v with
  | .ref k => decide (k ∈ refs)
  | _ => true
section LWS
variable {p : Program} {l : Launch} {e : Env} {R : Room} {s : State} {m : MethodId} {args : Array Value} {below : List Frame} {meth : Method} {c : Code} {nL : Nat} {D : va_G} {base n0 : Nat}
variable {α : Type} {g : Nat → ClassId} {a0 : Nat → Nat} {k0 : Nat × Nat} {fc : α → Nat × Nat} {Z : α → State → Prop}
variable {cc : ByteArray} {own : String} {w0 : Cond} {rt : Option FieldType} {fr lo : Nat} {pc pc1 : Nat} {st st0 st1 rest : List Value} {lv : List (Nat × Value)} {S : LW} {x : Option α}
theorem s_lookL (h : ∀ (aa : Nat → Nat) (H : Heap) (locs : List Loc) (ls : Array Slot) (Z0 : State → Prop) (cells slots : Nat), va_P D x_cl (wdL g aa S) H → W p l e R s m args below meth c H locs cells slots Z0 (F0 m pc1 ls (st1.map (xt aa))) → W p l e R s m args below meth c H locs cells slots Z0 (F0 m pc ls (st.map (xt aa))))
    (k : Sn p l e R s m args below meth c nL D x_cl base (wdL g) cL (grn n0) a0 k0 fc Z pc1 st1 lv S x) : Sn p l e R s m args below meth c nL D x_cl base (wdL g) cL (grn n0) a0 k0 fc Z pc st lv S x := by
  intro r hr
  obtain ⟨h1, h2, h3⟩ := k r hr
  exact ⟨h1, h2, fun aa H locs ls ha hw hl g1 g2 g3 g4 => h aa H locs ls _ _ _ hw.1 (h3 aa H locs ls ha hw hl g1 g2 g3 g4)⟩
theorem s_putL {S1 : LW} (hct : cL S1 = cL S) (h : ∀ (aa : Nat → Nat) (H : Heap) (locs : List Loc) (ls : Array Slot) (Z0 : State → Prop) (cells slots : Nat), va_P D x_cl (wdL g aa S) H → va_D (fun q : Nat => base ≤ q) (wdL g aa S) → va_S (fun q : Nat => base ≤ q) s.heap H locs → (∀ (H1 : Heap) (locs1 : List Loc), va_P D x_cl (wdL g aa S1) H1 → va_D (fun q : Nat => base ≤ q) (wdL g aa S1) → va_S (fun q : Nat => base ≤ q) s.heap H1 locs1 → W p l e R s m args below meth c H1 locs1 cells slots Z0 (F0 m pc1 ls (st1.map (xt aa)))) → W p l e R s m args below meth c H locs cells slots Z0 (F0 m pc ls (st.map (xt aa))))
    (k : Sn p l e R s m args below meth c nL D x_cl base (wdL g) cL (grn n0) a0 k0 fc Z pc1 st1 lv S1 x) : Sn p l e R s m args below meth c nL D x_cl base (wdL g) cL (grn n0) a0 k0 fc Z pc st lv S x := by
  intro r hr
  obtain ⟨h1, h2, h3⟩ := k r hr
  rw [hct] at h1 h2 h3
  exact ⟨h1, h2, fun aa H locs ls ha hw hl g1 g2 g3 g4 => h aa H locs ls _ _ _ hw.1 hw.2.1 hw.2.2 (fun H1 locs1 hP1 hD1 hS1 => h3 aa H1 locs1 ls ha ⟨hP1, hD1, hS1⟩ hl g1 g2 g3 g4)⟩
theorem wdL_app (g : Nat → ClassId) (aa : Nat → Nat) (S : LW) (E : xE) (cs : Nat × Nat) : wdL g aa (S.1 ++ [E], cs) = wdL g aa S ++ [(aa S.1.length, xeE g aa E)] := by
  apply List.ext_getElem?
  intro n
  rw [wdL_get]
  by_cases hn : n < S.1.length
  · rw [List.getElem?_append_left hn, List.getElem?_append_left (by rw [wdL_len]; exact hn), wdL_get]
  · rw [List.getElem?_append_right (by omega), List.getElem?_append_right (by rw [wdL_len]; omega), wdL_len]
    by_cases h0 : n = S.1.length
    · subst h0
      simp
    · have h1 : 0 < n - S.1.length := by omega
      rw [List.getElem?_eq_none (by simp; omega), List.getElem?_eq_none (by simp; omega)]
      rfl
theorem s_alloc {E : xE} {N : Nat} {refs : List Nat} {kk : LW → Option α} (hE : xrE 0 E = true) (h1 : st.all (xin0 refs) = true) (h2 : lv.all (fun q => xin0 refs q.2) = true)
    (step : ∀ (aa : Nat → Nat) (H : Heap) (locs : List Loc) (ls : Array Slot) (Z0 : State → Prop) (cells slots : Nat), va_P D x_cl (wdL g aa S) H → va_D (fun q : Nat => base ≤ q) (wdL g aa S) → va_S (fun q : Nat => base ≤ q) s.heap H locs → cells + 1 ≤ R.cells → slots + N ≤ R.slots →
      (∀ (q : Nat) (H1 : Heap), va_P D x_cl (wdL g aa S ++ [(q, xeE g aa E)]) H1 → va_D (fun q : Nat => base ≤ q) (wdL g aa S ++ [(q, xeE g aa E)]) → va_S (fun q : Nat => base ≤ q) s.heap H1 locs → W p l e R s m args below meth c H1 locs (cells + 1) (slots + N) Z0 (F0 m pc1 ls (.ref q :: st.map (xt aa)))) → W p l e R s m args below meth c H locs cells slots Z0 (F0 m pc ls (st0.map (xt aa))))
    (k : ∀ S1, nwL n0 S refs E N = some S1 → Sn p l e R s m args below meth c nL D x_cl base (wdL g) cL (grn n0) a0 k0 fc Z pc1 (.ref S.1.length :: st) lv S1 (kk S1)) :
    Sn p l e R s m args below meth c nL D x_cl base (wdL g) cL (grn n0) a0 k0 fc Z pc st0 lv S ((nwL n0 S refs E N).bind kk) := by
  by_cases hc : (n0 ≤ S.1.length ∧ S.1.length < 500) ∧ xok S = true ∧ refs.all (fun k => decide (k < S.1.length ∨ 500 ≤ k)) = true
  · have e9 : nwL n0 S refs E N = some (S.1 ++ [E], (S.2.1 + 1, S.2.2 + N)) := if_pos hc
    have k9 := k _ e9
    rw [e9]
    obtain ⟨c1, c2, c3⟩ := hc
    intro r hr
    obtain ⟨q1, q2, q3⟩ := k9 r hr
    have q1 : S.2.1 + 1 ≤ (fc r).1 := q1
    have q2 : S.2.2 + N ≤ (fc r).2 := q2
    refine ⟨Nat.le_trans (Nat.le_succ _) q1, Nat.le_trans (Nat.le_add_right _ _) q2, fun aa H locs ls ha hw hl g1 g2 g3 g4 => ?_⟩
    have g1 : k0.1 ≤ S.2.1 := g1
    have g2 : k0.2 ≤ S.2.2 := g2
    refine step aa H locs ls (Z r) _ _ hw.1 hw.2.1 hw.2.2 (by show S.2.1 - k0.1 + 1 ≤ R.cells; omega) (by show S.2.2 - k0.2 + N ≤ R.slots; omega) (fun q H1 hP1 hD1 hS1 => ?_)
    have hbb : ∀ k, k < S.1.length → (if k = S.1.length then q else aa k) = aa k := fun k hk => if_neg (by omega)
    have hW1 : wdL g (fun k => if k = S.1.length then q else aa k) (S.1 ++ [E], (S.2.1 + 1, S.2.2 + N)) = wdL g aa S ++ [(q, xeE g aa E)] := by
      rw [wdL_app, wdL_eq c2 hbb]
      congr 2
      have : xeE g (fun k => if k = S.1.length then q else aa k) E = xeE g aa E := xrE_eq (n := 0) (fun k hk => absurd hk (Nat.not_lt_zero k)) hE
      rw [this]
      simp
    have href : ∀ v : Value, xin0 refs v = true → xt (fun k => if k = S.1.length then q else aa k) v = xt aa v := by
      intro v hv
      cases v with
      | ref k =>
        have hk : k ∈ refs := by simpa [xin0] using hv
        have hlt : k < S.1.length ∨ 500 ≤ k := by simpa using List.all_eq_true.mp c3 k hk
        have hne : ¬ k = S.1.length := fun q => hlt.elim (fun h => Nat.ne_of_lt h q) (fun h => absurd (Nat.le_trans h (Nat.le_of_eq q)) (Nat.not_le.mpr c1.2))
        show Value.ref (if k = S.1.length then q else aa k) = Value.ref (aa k)
        rw [if_neg hne]
      | _ => rfl
    have est : st.map (xt (fun k => if k = S.1.length then q else aa k)) = st.map (xt aa) := List.map_congr_left (fun v hv => href v (List.all_eq_true.mp h1 v hv))
    have elv : lv.map (xq (fun k => if k = S.1.length then q else aa k)) = lv.map (xq aa) := List.map_congr_left (fun v hv => by
      show (v.1, xt _ v.2) = (v.1, xt _ v.2)
      rw [href v.2 (List.all_eq_true.mp h2 v hv)])
    have h4 := q3 (fun k => if k = S.1.length then q else aa k) H1 locs ls (fun k hk => by
        have hk0 : ¬ (n0 ≤ k ∧ k < 500) := by simpa [grn] using hk
        have hne : ¬ k = S.1.length := by omega
        show (if k = S.1.length then q else aa k) = a0 k
        rw [if_neg hne]
        exact ha k hk) ⟨by rw [hW1]; exact hP1, by rw [hW1]; exact hD1, hS1⟩ (by rw [elv]; exact hl) (by show k0.1 ≤ S.2.1 + 1; omega) (by show k0.2 ≤ S.2.2 + N; omega) g3 g4
    rw [List.map_cons, est] at h4
    have e8 : xt (fun k => if k = S.1.length then q else aa k) (.ref S.1.length) = .ref q := by
      show Value.ref (if S.1.length = S.1.length then q else aa S.1.length) = _
      rw [if_pos rfl]
    rw [e8] at h4
    exact W.cs (cells' := S.2.1 + 1 - k0.1) (slots' := S.2.2 + N - k0.2) (by show S.2.1 - k0.1 + 1 = _; omega) (by show S.2.2 - k0.2 + N = _; omega) h4
  · have e9 : nwL n0 S refs E N = none := if_neg hc
    rw [e9]
    exact s_none
theorem x_cA {tys : List (ClassId × FieldType)} {cA : ClassId} {ty : FieldType} {t : Nat} (hK : va_K D x_cl (xty g) s) (hK2 : va_K D x_cl (xty g ++ [(cA, ty)]) s) (ht : (xty g)[t]? = some (g t, ty)) (hp : ∀ C, ty ≠ .object C) : cA = g t := by
  have h1 := (hK2.2 4 (cA, ty) rfl).2
  have h2 := (hK.2 t (g t, ty) ht).2
  cases ty with
  | object C => exact absurd rfl (hp C)
  | _ => exact Option.some.inj (h1.symm.trans h2)
theorem s_newI {n : Int32} {N : Nat} {refs : List Nat} {kk : LW → Option α} (B : xB p R s m args meth c cc nL own (w0 :: x_T) rt fr lo D x_cl (xty g) base) (hd : decode cc pc = .ok (.newarray .int, 2)) (hn : ¬ n < 0) (hN : n.toNatClampNeg = N) (hb : N * 4 ≤ 536870912) (h1 : st.all (xin0 refs) = true) (h2 : lv.all (fun q => xin0 refs q.2) = true)
    (k : ∀ S1, nwL n0 S refs (.inl (0, N, .inl (fun _ => 0))) N = some S1 → Sn p l e R s m args below meth c nL D x_cl base (wdL g) cL (grn n0) a0 k0 fc Z (pc + 2) (.ref S.1.length :: st) lv S1 (kk S1)) :
    Sn p l e R s m args below meth c nL D x_cl base (wdL g) cL (grn n0) a0 k0 fc Z pc (.int n :: st) lv S ((nwL n0 S refs (.inl (0, N, .inl (fun _ => 0))) N).bind kk) :=
  s_alloc rfl h1 h2 (fun aa H locs ls Z0 cells slots hP hD hS hc hs k9 => va_newa (atype := .int) (N' := N) (a0 := (N, .inl (fun _ => 0))) (ty := .int) B.1 B.2.1 (B.2.2.2.2.1 _ (List.mem_cons_of_mem _ ac_int)) rfl B.2.2.2.2.2.2.2.2.2.1 hP hD hS (fun q hq => Nat.le_trans B.2.2.2.2.2.2.2.2.2.2 hq) (fun cA => rfl) hn hN hb hc hs hd (fun q cA H1 hK2 hP1 hD1 hS1 => by
    have hcA : cA = g 0 := x_cA (tys := []) B.2.2.2.2.2.2.2.2.2.1 hK2 rfl (fun C h => by cases h)
    subst hcA
    exact k9 q H1 hP1 hD1 hS1)) k
end LWS
