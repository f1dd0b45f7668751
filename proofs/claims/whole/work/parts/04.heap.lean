/-! the models' state: int and boolean rows, long rows, lengths, int fields, the two fields that change their row, cells and slots made -/
abbrev MS : Type := (Nat → Nat → Int32) × (Nat → Nat → Int64) × (Nat → Nat) × (Nat → Nat → Int32) × (Nat → Nat → Nat) × (Nat × Nat)
def gA (M : MS) : Nat → Nat → Int32 := M.1
def gJ (M : MS) : Nat → Nat → Int64 := M.2.1
def gL (M : MS) : Nat → Nat := M.2.2.1
def gI (M : MS) : Nat → Nat → Int32 := M.2.2.2.1
def gD (M : MS) : Nat → Nat → Nat := M.2.2.2.2.1
def cM (M : MS) : Nat × Nat := M.2.2.2.2.2
def sA (M : MS) (a j : Nat) (x : Int32) : MS := (fun n => if n = a then upd (M.1 a) j x else M.1 n, M.2)
def sJ (M : MS) (a j : Nat) (x : Int64) : MS := (M.1, fun n => if n = a then vp_updL (M.2.1 a) j x else M.2.1 n, M.2.2)
def sI (M : MS) (o k : Nat) (x : Int32) : MS := (M.1, M.2.1, M.2.2.1, fun n => if n = o then upd (M.2.2.2.1 o) k x else M.2.2.2.1 n, M.2.2.2.2)
def sD (M : MS) (o k : Nat) (x : Nat) : MS := (M.1, M.2.1, M.2.2.1, M.2.2.2.1, fun n => if n = o then (fun j => if j = k then x else M.2.2.2.2.1 o j) else M.2.2.2.2.1 n, M.2.2.2.2.2)
def ldA (M : MS) (a : Nat) (i : Int32) : Option Int32 := if i < 0 ∨ gL M a ≤ i.toNatClampNeg then none else some (gA M a i.toNatClampNeg)
def stA (M : MS) (a : Nat) (i x : Int32) : Option MS := if i < 0 ∨ gL M a ≤ i.toNatClampNeg then none else some (sA M a i.toNatClampNeg x)
def stZ (M : MS) (a : Nat) (i x : Int32) : Option MS := if i < 0 ∨ gL M a ≤ i.toNatClampNeg then none else some (sA M a i.toNatClampNeg (nb x))
def ldJ (M : MS) (a : Nat) (i : Int32) : Option Int64 := if i < 0 ∨ gL M a ≤ i.toNatClampNeg then none else some (gJ M a i.toNatClampNeg)
def stJ (M : MS) (a : Nat) (i : Int32) (x : Int64) : Option MS := if i < 0 ∨ gL M a ≤ i.toNatClampNeg then none else some (sJ M a i.toNatClampNeg x)
def ldQ (M : MS) (a : Nat) (i : Int32) : Option Nat := if i < 0 ∨ gL M a ≤ i.toNatClampNeg then none else some (x_sm i.toNatClampNeg)
/-- the world of a state -/
def xf (aa : Nat → Nat) (M : MS) (n k : Nat) : Value := if x_ft (x_kd n) k = 0 then .int (gI M n k) else if x_ft (x_kd n) k = 1 then .ref (aa (x_sr n k)) else .ref (aa (gD M n k))
def xent (g : Nat → ClassId) (aa : Nat → Nat) (M : MS) (n : Nat) : va_E :=
  if x_kd n < 20 then .inr (x_kd n, (List.range (x_Nf (x_kd n))).map (xf aa M n))
  else if x_kd n = 20 ∨ x_kd n = 21 then .inl (g 0, gL M n, .inl (gA M n))
  else if x_kd n = 22 then .inl (g 1, gL M n, .inl (gA M n))
  else if x_kd n = 23 then .inl (g 2, gL M n, .inr (.inl (gJ M n)))
  else .inl (g 3, gL M n, .inr (.inr (.inr (.inr (fun j => some (aa (x_sm j)))))))
def xwd (g : Nat → ClassId) (aa : Nat → Nat) (M : MS) : va_W := (List.range xNW).map (fun n => (aa n, xent g aa M n))
def x_gr (n : Nat) : Bool := x_kd n == 21
theorem xwd_get (g : Nat → ClassId) (aa : Nat → Nat) (M : MS) (n : Nat) : (xwd g aa M)[n]? = if n < xNW then some (aa n, xent g aa M n) else none := by
  unfold xwd
  rw [List.getElem?_map]
  by_cases h : n < xNW
  · rw [if_pos h, List.getElem?_range h]; rfl
  · rw [if_neg h, List.getElem?_eq_none (by simpa using h)]; rfl
theorem xwd_at (g : Nat → ClassId) (aa : Nat → Nat) (M : MS) {n : Nat} (h : n < xNW) : (xwd g aa M)[n]? = some (aa n, xent g aa M n) := by rw [xwd_get, if_pos h]
theorem xent_congr (g : Nat → ClassId) (aa : Nat → Nat) {M M1 : MS} {n : Nat} (h1 : gA M1 n = gA M n) (h2 : gJ M1 n = gJ M n) (h3 : gL M1 n = gL M n) (h4 : gI M1 n = gI M n) (h5 : gD M1 n = gD M n) : xent g aa M1 n = xent g aa M n := by
  have h6 : xf aa M1 n = xf aa M n := by funext k; unfold xf; rw [h4, h5]
  unfold xent
  rw [h1, h2, h3, h6]
theorem xwd_set (g : Nat → ClassId) (aa : Nat → Nat) {M M1 : MS} {o : Nat} (ho : o < xNW) (hne : ∀ n, n ≠ o → xent g aa M1 n = xent g aa M n) : (xwd g aa M).set o (aa o, xent g aa M1 o) = xwd g aa M1 := by
  apply List.ext_getElem?
  intro n
  rw [List.getElem?_set, xwd_get, xwd_get]
  by_cases hn : o = n
  · subst hn
    rw [if_pos rfl, if_pos ho]
    have : o < (xwd g aa M).length := by unfold xwd; simpa using ho
    rw [if_pos this]
  · rw [if_neg hn, hne n (Ne.symm hn)]
theorem xent_obj (g : Nat → ClassId) (aa : Nat → Nat) (M : MS) {n ci : Nat} (h : x_kd n = ci) (hc : ci < 20) : xent g aa M n = .inr (ci, (List.range (x_Nf ci)).map (xf aa M n)) := by
  unfold xent
  rw [if_pos (by rw [h]; exact hc), h]
theorem xent_int (g : Nat → ClassId) (aa : Nat → Nat) (M : MS) {n : Nat} (h : x_kd n = 20 ∨ x_kd n = 21) : xent g aa M n = .inl (g 0, gL M n, .inl (gA M n)) := by
  unfold xent
  rw [if_neg (by rcases h with h | h <;> rw [h] <;> decide), if_pos h]
theorem xent_bool (g : Nat → ClassId) (aa : Nat → Nat) (M : MS) {n : Nat} (h : x_kd n = 22) : xent g aa M n = .inl (g 1, gL M n, .inl (gA M n)) := by
  unfold xent
  rw [if_neg (by rw [h]; decide), if_neg (by rw [h]; decide), if_pos h]
theorem xent_long (g : Nat → ClassId) (aa : Nat → Nat) (M : MS) {n : Nat} (h : x_kd n = 23) : xent g aa M n = .inl (g 2, gL M n, .inr (.inl (gJ M n))) := by
  unfold xent
  rw [if_neg (by rw [h]; decide), if_neg (by rw [h]; decide), if_neg (by rw [h]; decide), if_pos h]
theorem xent_refs (g : Nat → ClassId) (aa : Nat → Nat) (M : MS) {n : Nat} (h : x_kd n = 24) : xent g aa M n = .inl (g 3, gL M n, .inr (.inr (.inr (.inr (fun j => some (aa (x_sm j))))))) := by
  unfold xent
  rw [if_neg (by rw [h]; decide), if_neg (by rw [h]; decide), if_neg (by rw [h]; decide), if_neg (by rw [h]; decide)]
def xty (g : Nat → ClassId) : List (ClassId × FieldType) := [(g 0, .int), (g 1, .boolean), (g 2, .long), (g 3, .object x_RM)]
def xCls (cl : List vw_C) (T0 : List Cond) (ci : Nat) (C : String) (T : u_T) (ty0 : Nat → FieldType) : Prop :=
  cl[ci]? = some (C, T, x_Nf ci) ∧ ci < 20 ∧ (∀ w ∈ u_ws C T (x_Nf ci), w ∈ T0) ∧ (∀ k, k < x_Nf ci → parseFieldDescriptor (T k).2.2.1 = some (ty0 k)) ∧ (∀ a, a < x_Nf ci → ∀ b, b < x_Nf ci → a ≠ b → (T a).2.1 ≠ (T b).2.1)
theorem xin {i : Int32} {n : Nat} (h : ¬ (i < 0 ∨ n ≤ i.toNatClampNeg)) : vp_in i n := h
section SNH
variable {p : Program} {l : Launch} {e : Env} {R : Room} {s : State} {m : MethodId} {args : Array Value} {below : List Frame} {meth : Method} {c : Code} {nL : Nat} {D : va_G} {cl : List vw_C} {base : Nat}
variable {α : Type} {g : Nat → ClassId} {gr : Nat → Bool} {a0 : Nat → Nat} {k0 : Nat × Nat} {fc : α → Nat × Nat} {Z : α → State → Prop}
variable {cc : ByteArray} {own : String} {w0 : Cond} {T0 : List Cond} {rt : Option FieldType} {fr lo : Nat} {pc : Nat} {st : List Value} {lv : List (Nat × Value)} {M : MS} {x : Option α}
/-- a row that reads the world, and leaves it -/
theorem s_look0 {pc1 : Nat} {st1 : List Value} (h : ∀ (aa : Nat → Nat) (H : Heap) (locs : List Loc) (ls : Array Slot) (Z0 : State → Prop) (cells slots : Nat), va_P D cl (xwd g aa M) H → W p l e R s m args below meth c H locs cells slots Z0 (F0 m pc1 ls (st1.map (xt aa))) → W p l e R s m args below meth c H locs cells slots Z0 (F0 m pc ls (st.map (xt aa))))
    (k : Sn p l e R s m args below meth c nL D cl base (xwd g) cM gr a0 k0 fc Z pc1 st1 lv M x) : Sn p l e R s m args below meth c nL D cl base (xwd g) cM gr a0 k0 fc Z pc st lv M x := by
  intro r hr
  obtain ⟨h1, h2, h3⟩ := k r hr
  exact ⟨h1, h2, fun aa H locs ls ha hw hl g1 g2 g3 g4 => h aa H locs ls _ _ _ hw.1 (h3 aa H locs ls ha hw hl g1 g2 g3 g4)⟩
/-- a row that writes one cell of the world -/
theorem s_put0 {pc1 : Nat} {st1 : List Value} {M1 : MS} (hct : cM M1 = cM M) (h : ∀ (aa : Nat → Nat) (H : Heap) (locs : List Loc) (ls : Array Slot) (Z0 : State → Prop) (cells slots : Nat), va_P D cl (xwd g aa M) H → va_D (fun q : Nat => base ≤ q) (xwd g aa M) → va_S (fun q : Nat => base ≤ q) s.heap H locs → (∀ (H1 : Heap) (locs1 : List Loc), va_P D cl (xwd g aa M1) H1 → va_D (fun q : Nat => base ≤ q) (xwd g aa M1) → va_S (fun q : Nat => base ≤ q) s.heap H1 locs1 → W p l e R s m args below meth c H1 locs1 cells slots Z0 (F0 m pc1 ls (st1.map (xt aa)))) → W p l e R s m args below meth c H locs cells slots Z0 (F0 m pc ls (st.map (xt aa))))
    (k : Sn p l e R s m args below meth c nL D cl base (xwd g) cM gr a0 k0 fc Z pc1 st1 lv M1 x) : Sn p l e R s m args below meth c nL D cl base (xwd g) cM gr a0 k0 fc Z pc st lv M x := by
  intro r hr
  obtain ⟨h1, h2, h3⟩ := k r hr
  rw [hct] at h1 h2 h3
  exact ⟨h1, h2, fun aa H locs ls ha hw hl g1 g2 g3 g4 => h aa H locs ls _ _ _ hw.1 hw.2.1 hw.2.2 (fun H1 locs1 hP1 hD1 hS1 => h3 aa H1 locs1 ls ha ⟨hP1, hD1, hS1⟩ hl g1 g2 g3 g4)⟩
theorem xat {n : Nat} (aa : Nat → Nat) {E : va_E} (hn : n < xNW) (h : xent g aa M n = E) : (xwd g aa M)[n]? = some (aa n, E) := by rw [xwd_at g aa M hn, h]
theorem xfs {aa : Nat → Nat} {o ci k : Nat} (hk : k < x_Nf ci) : ((List.range (x_Nf ci)).map (xf aa M o))[k]? = some (xf aa M o k) := by
  rw [List.getElem?_map, List.getElem?_range hk]; rfl
theorem s_getI {o k ci index : Nat} {C : String} {T : u_T} {ty0 : Nat → FieldType}  (B : xB p R s m args meth c cc nL own (w0 :: T0) rt fr lo D cl (xty g) base) (hc : xCls cl T0 ci C T ty0) (ho : x_kd o = ci) (hk : k < x_Nf ci) (hft : x_ft ci k = 0) (hT : (T k).1 = C) (hlk : Cond.fieldLink own index C (T k).2.1 (T k).2.2.1 ∈ T0)  (hd : decode cc pc = .ok (.getfield index, 3)) (kk : Sn p l e R s m args below meth c nL D cl base (xwd g) cM gr a0 k0 fc Z (pc + 3) (.int (gI M o k) :: st) lv M x) : Sn p l e R s m args below meth c nL D cl base (xwd g) cM gr a0 k0 fc Z pc (.ref o :: st) lv M x :=
  s_look0 (fun aa H locs ls Z0 cells slots hP k9 => by
    obtain ⟨c1, c2, c3, c4, c5⟩ := hc
    have hn : o < xNW := x_kd_lt (by rw [ho]; omega)
    have he := xat (g := g) (M := M) aa hn (xent_obj g aa M ho c2)
    refine va_get (q0 := o) (ci := ci) (v := xf aa M o k) B.1 B.2.1 B.2.2.2.2.1 (fun w hw => List.mem_cons_of_mem _ (c3 w hw)) B.2.2.2.1 B.2.2.2.2.2.2.2.2.2.1 hP he c1 k hk (B.2.2.2.2.1 _ (List.mem_cons_of_mem _ hlk)) (fun y hy => by rw [hT] at hy; exact hy) (xfs hk) hd ?_
    have e9 : xf aa M o k = .int (gI M o k) := by unfold xf; rw [ho]; simp [hft]
    rw [e9]
    exact k9) kk
theorem s_getS {o k ci index : Nat} {C : String} {T : u_T} {ty0 : Nat → FieldType} {n : Nat} (B : xB p R s m args meth c cc nL own (w0 :: T0) rt fr lo D cl (xty g) base) (hc : xCls cl T0 ci C T ty0) (ho : x_kd o = ci) (hk : k < x_Nf ci) (hft : x_ft ci k = 1) (hT : (T k).1 = C) (hlk : Cond.fieldLink own index C (T k).2.1 (T k).2.2.1 ∈ T0) (hr : x_sr o k = n) (hd : decode cc pc = .ok (.getfield index, 3)) (kk : Sn p l e R s m args below meth c nL D cl base (xwd g) cM gr a0 k0 fc Z (pc + 3) (.ref n :: st) lv M x) : Sn p l e R s m args below meth c nL D cl base (xwd g) cM gr a0 k0 fc Z pc (.ref o :: st) lv M x :=
  s_look0 (fun aa H locs ls Z0 cells slots hP k9 => by
    obtain ⟨c1, c2, c3, c4, c5⟩ := hc
    have hn : o < xNW := x_kd_lt (by rw [ho]; omega)
    have he := xat (g := g) (M := M) aa hn (xent_obj g aa M ho c2)
    refine va_get (q0 := o) (ci := ci) (v := xf aa M o k) B.1 B.2.1 B.2.2.2.2.1 (fun w hw => List.mem_cons_of_mem _ (c3 w hw)) B.2.2.2.1 B.2.2.2.2.2.2.2.2.2.1 hP he c1 k hk (B.2.2.2.2.1 _ (List.mem_cons_of_mem _ hlk)) (fun y hy => by rw [hT] at hy; exact hy) (xfs hk) hd ?_
    have e9 : xf aa M o k = .ref (aa n) := by unfold xf; rw [ho]; simp [hft, hr]
    rw [e9]
    exact k9) kk
theorem s_getD {o k ci index : Nat} {C : String} {T : u_T} {ty0 : Nat → FieldType}  (B : xB p R s m args meth c cc nL own (w0 :: T0) rt fr lo D cl (xty g) base) (hc : xCls cl T0 ci C T ty0) (ho : x_kd o = ci) (hk : k < x_Nf ci) (hft : x_ft ci k = 2) (hT : (T k).1 = C) (hlk : Cond.fieldLink own index C (T k).2.1 (T k).2.2.1 ∈ T0)  (hd : decode cc pc = .ok (.getfield index, 3)) (kk : Sn p l e R s m args below meth c nL D cl base (xwd g) cM gr a0 k0 fc Z (pc + 3) (.ref (gD M o k) :: st) lv M x) : Sn p l e R s m args below meth c nL D cl base (xwd g) cM gr a0 k0 fc Z pc (.ref o :: st) lv M x :=
  s_look0 (fun aa H locs ls Z0 cells slots hP k9 => by
    obtain ⟨c1, c2, c3, c4, c5⟩ := hc
    have hn : o < xNW := x_kd_lt (by rw [ho]; omega)
    have he := xat (g := g) (M := M) aa hn (xent_obj g aa M ho c2)
    refine va_get (q0 := o) (ci := ci) (v := xf aa M o k) B.1 B.2.1 B.2.2.2.2.1 (fun w hw => List.mem_cons_of_mem _ (c3 w hw)) B.2.2.2.1 B.2.2.2.2.2.2.2.2.2.1 hP he c1 k hk (B.2.2.2.2.1 _ (List.mem_cons_of_mem _ hlk)) (fun y hy => by rw [hT] at hy; exact hy) (xfs hk) hd ?_
    have e9 : xf aa M o k = .ref (aa (gD M o k)) := by unfold xf; rw [ho]; simp [hft]
    rw [e9]
    exact k9) kk
theorem xwd_sI {o k ci : Nat} (aa : Nat → Nat) (v : Int32) (ho : x_kd o = ci) (hci : ci < 20) (hk : k < x_Nf ci) (hft : x_ft ci k = 0) : (xwd g aa M).set o (aa o, .inr (ci, ((List.range (x_Nf ci)).map (xf aa M o)).set k (.int v))) = xwd g aa (sI M o k v) := by
  rw [← xwd_set g aa (M := M) (M1 := sI M o k v) (o := o) (x_kd_lt (by rw [ho]; omega))]
  · congr 2
    rw [xent_obj g aa _ ho hci]
    congr 2
    apply List.ext_getElem?
    intro j
    rw [List.getElem?_set, List.getElem?_map, List.getElem?_map]
    by_cases hj : k = j
    · subst hj
      simp [hk, xf, ho, hft, sI, gI, upd]
    · rw [if_neg hj]
      by_cases hjn : j < x_Nf ci
      · rw [List.getElem?_range hjn]
        simp [xf, sI, gI, gD, upd, Ne.symm hj]
      · rw [List.getElem?_eq_none (by simpa using hjn)]
        rfl
  · intro n hn
    apply xent_congr <;> simp [sI, gA, gJ, gL, gI, gD, hn]
theorem xwd_sA {a : Nat} (aa : Nat → Nat) (j : Nat) (v : Int32) (ha : x_kd a = 20 ∨ x_kd a = 21) : (xwd g aa M).set a (aa a, .inl (g 0, gL M a, .inl (upd (gA M a) j v))) = xwd g aa (sA M a j v) := by
  rw [← xwd_set g aa (M := M) (M1 := sA M a j v) (o := a) (x_kd_lt (by rcases ha with h | h <;> rw [h] <;> decide))]
  · rw [xent_int g aa _ ha]
    simp [sA, gA, gL]
  · intro n hn
    apply xent_congr <;> simp [sA, gA, gJ, gL, gI, gD, hn]
theorem xwd_sZ {a : Nat} (aa : Nat → Nat) (j : Nat) (v : Int32) (ha : x_kd a = 22) : (xwd g aa M).set a (aa a, .inl (g 1, gL M a, .inl (upd (gA M a) j v))) = xwd g aa (sA M a j v) := by
  rw [← xwd_set g aa (M := M) (M1 := sA M a j v) (o := a) (x_kd_lt (by rw [ha]; decide))]
  · rw [xent_bool g aa _ ha]
    simp [sA, gA, gL]
  · intro n hn
    apply xent_congr <;> simp [sA, gA, gJ, gL, gI, gD, hn]
theorem xwd_sJ {a : Nat} (aa : Nat → Nat) (j : Nat) (v : Int64) (ha : x_kd a = 23) : (xwd g aa M).set a (aa a, .inl (g 2, gL M a, .inr (.inl (vp_updL (gJ M a) j v)))) = xwd g aa (sJ M a j v) := by
  rw [← xwd_set g aa (M := M) (M1 := sJ M a j v) (o := a) (x_kd_lt (by rw [ha]; decide))]
  · rw [xent_long g aa _ ha]
    simp [sJ, gJ, gL]
  · intro n hn
    apply xent_congr <;> simp [sJ, gA, gJ, gL, gI, gD, hn]
theorem xwd_sD {o k ci : Nat} (aa : Nat → Nat) (v : Nat) (ho : x_kd o = ci) (hci : ci < 20) (hk : k < x_Nf ci) (hft : x_ft ci k = 2) : (xwd g aa M).set o (aa o, .inr (ci, ((List.range (x_Nf ci)).map (xf aa M o)).set k (.ref (aa v)))) = xwd g aa (sD M o k v) := by
  rw [← xwd_set g aa (M := M) (M1 := sD M o k v) (o := o) (x_kd_lt (by rw [ho]; omega))]
  · congr 2
    rw [xent_obj g aa _ ho hci]
    congr 2
    apply List.ext_getElem?
    intro j
    rw [List.getElem?_set, List.getElem?_map, List.getElem?_map]
    by_cases hj : k = j
    · subst hj
      simp [hk, xf, ho, hft, sD, gD]
    · rw [if_neg hj]
      by_cases hjn : j < x_Nf ci
      · rw [List.getElem?_range hjn]
        simp [xf, sD, gI, gD, Ne.symm hj]
      · rw [List.getElem?_eq_none (by simpa using hjn)]
        rfl
  · intro n hn
    apply xent_congr <;> simp [sD, gA, gJ, gL, gI, gD, hn]
theorem s_putI {o k ci index : Nat} {v : Int32} {C : String} {T : u_T} {ty : FieldType} {ty0 : Nat → FieldType} {kk : MS → Option α} (B : xB p R s m args meth c cc nL own (w0 :: T0) rt fr lo D cl (xty g) base) (hc : xCls cl T0 ci C T ty0) (ho : x_kd o = ci) (hk : k < x_Nf ci) (hft : x_ft ci k = 0) (hT : (T k).1 = C) (hlk : Cond.fieldLink own index C (T k).2.1 (T k).2.2.1 ∈ T0) (hfin : (T k).2.2.2 = false) (hty : ty0 k = ty) (hnr : narrow ty (.int v) = .int v) (hfit : fits ty (.int v) = true) (hd : decode cc pc = .ok (.putfield index, 3)) (h : ∀ M1, M1 = sI M o k v → Sn p l e R s m args below meth c nL D cl base (xwd g) cM gr a0 k0 fc Z (pc + 3) st lv M1 (kk M1)) : Sn p l e R s m args below meth c nL D cl base (xwd g) cM gr a0 k0 fc Z pc (.int v :: .ref o :: st) lv M ((some (sI M o k v)).bind kk) :=
  s_put0 (M1 := sI M o k v) rfl (fun aa H locs ls Z0 cells slots hP hD hS k9 => by
    obtain ⟨c1, c2, c3, c4, c5⟩ := hc
    have hn : o < xNW := x_kd_lt (by rw [ho]; omega)
    have he := xat (g := g) (M := M) aa hn (xent_obj g aa M ho c2)
    refine va_put (q0 := o) (ci := ci) (v := .int v) (ty := ty) B.1 B.2.1 B.2.2.2.2.1 (fun w hw => List.mem_cons_of_mem _ (c3 w hw)) ty0 c4 c5 B.2.2.2.1 B.2.2.2.2.2.2.2.2.2.1 hP hD hS he c1 k hk (B.2.2.2.2.1 _ (List.mem_cons_of_mem _ hlk)) (fun y hy => by rw [hT] at hy; exact hy) hfin (by rw [c4 k hk, hty]) hnr hfit (by simpa using hk) hd ?_
    intro H1 locs1 hP1 hD1 hS1
    rw [xwd_sI aa v ho c2 hk hft] at hP1 hD1
    exact k9 H1 locs1 hP1 hD1 hS1) (h _ rfl)
theorem s_putD {o k ci index : Nat} {v : Nat} {C : String} {T : u_T} {ty : FieldType} {ty0 : Nat → FieldType} {kk : MS → Option α} (B : xB p R s m args meth c cc nL own (w0 :: T0) rt fr lo D cl (xty g) base) (hc : xCls cl T0 ci C T ty0) (ho : x_kd o = ci) (hk : k < x_Nf ci) (hft : x_ft ci k = 2) (hT : (T k).1 = C) (hlk : Cond.fieldLink own index C (T k).2.1 (T k).2.2.1 ∈ T0) (hfin : (T k).2.2.2 = false) (hty : ty0 k = ty) (hnr : ∀ q : Nat, narrow ty (.ref q) = .ref q) (hfit : ∀ q : Nat, fits ty (.ref q) = true) (hd : decode cc pc = .ok (.putfield index, 3)) (h : ∀ M1, M1 = sD M o k v → Sn p l e R s m args below meth c nL D cl base (xwd g) cM gr a0 k0 fc Z (pc + 3) st lv M1 (kk M1)) : Sn p l e R s m args below meth c nL D cl base (xwd g) cM gr a0 k0 fc Z pc (.ref v :: .ref o :: st) lv M ((some (sD M o k v)).bind kk) :=
  s_put0 (M1 := sD M o k v) rfl (fun aa H locs ls Z0 cells slots hP hD hS k9 => by
    obtain ⟨c1, c2, c3, c4, c5⟩ := hc
    have hn : o < xNW := x_kd_lt (by rw [ho]; omega)
    have he := xat (g := g) (M := M) aa hn (xent_obj g aa M ho c2)
    refine va_put (q0 := o) (ci := ci) (v := .ref (aa v)) (ty := ty) B.1 B.2.1 B.2.2.2.2.1 (fun w hw => List.mem_cons_of_mem _ (c3 w hw)) ty0 c4 c5 B.2.2.2.1 B.2.2.2.2.2.2.2.2.2.1 hP hD hS he c1 k hk (B.2.2.2.2.1 _ (List.mem_cons_of_mem _ hlk)) (fun y hy => by rw [hT] at hy; exact hy) hfin (by rw [c4 k hk, hty]) (hnr _) (hfit _) (by simpa using hk) hd ?_
    intro H1 locs1 hP1 hD1 hS1
    rw [xwd_sD aa v ho c2 hk hft] at hP1 hD1
    exact k9 H1 locs1 hP1 hD1 hS1) (h _ rfl)
theorem s_iald {a : Nat} {i : Int32} {kk : Int32 → Option α} (B : xB p R s m args meth c cc nL own (w0 :: T0) rt fr lo D cl (xty g) base) (ha : x_kd a = 20 ∨ x_kd a = 21) (hd : decode cc pc = .ok (.iaload, 1)) (h : ∀ v, ldA M a i = some v → Sn p l e R s m args below meth c nL D cl base (xwd g) cM gr a0 k0 fc Z (pc + 1) (.int v :: st) lv M (kk v)) : Sn p l e R s m args below meth c nL D cl base (xwd g) cM gr a0 k0 fc Z pc (.int i :: .ref a :: st) lv M ((ldA M a i).bind kk) := by
  have hn : a < xNW := x_kd_lt (by rcases ha with q | q <;> rw [q] <;> decide)
  by_cases hi : i < 0 ∨ gL M a ≤ i.toNatClampNeg
  · have e9 : ldA M a i = none := if_pos hi
    rw [e9]
    exact s_none
  · have e9 : ldA M a i = some _ := if_neg hi
    have h9 := h _ e9
    rw [e9]
    exact s_look0 (fun aa H locs ls Z0 cells slots hP k => va_iald B.1 B.2.1 B.2.2.2.2.2.2.2.2.2.1 hP a 0 (xat aa hn (xent_int g aa M ha)) rfl (xin hi) hd k) h9
theorem s_zald {a : Nat} {i : Int32} {kk : Int32 → Option α} (B : xB p R s m args meth c cc nL own (w0 :: T0) rt fr lo D cl (xty g) base) (ha : x_kd a = 22) (hd : decode cc pc = .ok (.baload, 1)) (h : ∀ v, ldA M a i = some v → Sn p l e R s m args below meth c nL D cl base (xwd g) cM gr a0 k0 fc Z (pc + 1) (.int v :: st) lv M (kk v)) : Sn p l e R s m args below meth c nL D cl base (xwd g) cM gr a0 k0 fc Z pc (.int i :: .ref a :: st) lv M ((ldA M a i).bind kk) := by
  have hn : a < xNW := x_kd_lt (by rw [ha]; decide)
  by_cases hi : i < 0 ∨ gL M a ≤ i.toNatClampNeg
  · have e9 : ldA M a i = none := if_pos hi
    rw [e9]
    exact s_none
  · have e9 : ldA M a i = some _ := if_neg hi
    have h9 := h _ e9
    rw [e9]
    exact s_look0 (fun aa H locs ls Z0 cells slots hP k => va_zald B.1 B.2.1 B.2.2.2.2.2.2.2.2.2.1 hP a 1 (xat aa hn (xent_bool g aa M ha)) rfl (xin hi) hd k) h9
theorem s_lald {a : Nat} {i : Int32} {kk : Int64 → Option α} (B : xB p R s m args meth c cc nL own (w0 :: T0) rt fr lo D cl (xty g) base) (ha : x_kd a = 23) (hd : decode cc pc = .ok (.laload, 1)) (h : ∀ v, ldJ M a i = some v → Sn p l e R s m args below meth c nL D cl base (xwd g) cM gr a0 k0 fc Z (pc + 1) (.long v :: st) lv M (kk v)) : Sn p l e R s m args below meth c nL D cl base (xwd g) cM gr a0 k0 fc Z pc (.int i :: .ref a :: st) lv M ((ldJ M a i).bind kk) := by
  have hn : a < xNW := x_kd_lt (by rw [ha]; decide)
  by_cases hi : i < 0 ∨ gL M a ≤ i.toNatClampNeg
  · have e9 : ldJ M a i = none := if_pos hi
    rw [e9]
    exact s_none
  · have e9 : ldJ M a i = some _ := if_neg hi
    have h9 := h _ e9
    rw [e9]
    exact s_look0 (fun aa H locs ls Z0 cells slots hP k => va_lald B.1 B.2.1 B.2.2.2.2.2.2.2.2.2.1 hP a 2 (xat aa hn (xent_long g aa M ha)) rfl (xin hi) hd k) h9
theorem s_aald {a : Nat} {i : Int32} {kk : Nat → Option α} (B : xB p R s m args meth c cc nL own (w0 :: T0) rt fr lo D cl (xty g) base) (ha : x_kd a = 24) (hd : decode cc pc = .ok (.aaload, 1)) (h : ∀ v, ldQ M a i = some v → Sn p l e R s m args below meth c nL D cl base (xwd g) cM gr a0 k0 fc Z (pc + 1) (.ref v :: st) lv M (kk v)) : Sn p l e R s m args below meth c nL D cl base (xwd g) cM gr a0 k0 fc Z pc (.int i :: .ref a :: st) lv M ((ldQ M a i).bind kk) := by
  have hn : a < xNW := x_kd_lt (by rw [ha]; decide)
  by_cases hi : i < 0 ∨ gL M a ≤ i.toNatClampNeg
  · have e9 : ldQ M a i = none := if_pos hi
    rw [e9]
    exact s_none
  · have e9 : ldQ M a i = some _ := if_neg hi
    have h9 := h _ e9
    rw [e9]
    exact s_look0 (fun aa H locs ls Z0 cells slots hP k => va_aldq B.1 B.2.1 B.2.2.2.2.2.2.2.2.2.1 hP a 3 (xat aa hn (xent_refs g aa M ha)) rfl (xin hi) hd k) h9
theorem s_iast {a : Nat} {i : Int32} {v : Int32} {kk : MS → Option α} (B : xB p R s m args meth c cc nL own (w0 :: T0) rt fr lo D cl (xty g) base) (ha : x_kd a = 20 ∨ x_kd a = 21) (hd : decode cc pc = .ok (.iastore, 1)) (h : ∀ M1, stA M a i v = some M1 → Sn p l e R s m args below meth c nL D cl base (xwd g) cM gr a0 k0 fc Z (pc + 1) st lv M1 (kk M1)) : Sn p l e R s m args below meth c nL D cl base (xwd g) cM gr a0 k0 fc Z pc (.int v :: .int i :: .ref a :: st) lv M ((stA M a i v).bind kk) := by
  have hn : a < xNW := x_kd_lt (by rcases ha with q | q <;> rw [q] <;> decide)
  by_cases hi : i < 0 ∨ gL M a ≤ i.toNatClampNeg
  · have e9 : stA M a i v = none := if_pos hi
    rw [e9]
    exact s_none
  · have e9 : stA M a i v = some _ := if_neg hi
    have h9 := h _ e9
    rw [e9]
    exact s_put0 (M1 := sA M a i.toNatClampNeg (v)) rfl (fun aa H locs ls Z0 cells slots hP hD hS k => va_iast B.1 B.2.1 B.2.2.2.2.2.2.2.2.2.1 hP hD hS a 0 (xat aa hn (xent_int g aa M ha)) rfl (xin hi) hd (fun H1 locs1 hP1 hD1 hS1 => by
      rw [xwd_sA aa i.toNatClampNeg (v) ha] at hP1 hD1
      exact k H1 locs1 hP1 hD1 hS1)) h9
theorem s_zast {a : Nat} {i : Int32} {v : Int32} {kk : MS → Option α} (B : xB p R s m args meth c cc nL own (w0 :: T0) rt fr lo D cl (xty g) base) (ha : x_kd a = 22) (hd : decode cc pc = .ok (.bastore, 1)) (h : ∀ M1, stZ M a i v = some M1 → Sn p l e R s m args below meth c nL D cl base (xwd g) cM gr a0 k0 fc Z (pc + 1) st lv M1 (kk M1)) : Sn p l e R s m args below meth c nL D cl base (xwd g) cM gr a0 k0 fc Z pc (.int v :: .int i :: .ref a :: st) lv M ((stZ M a i v).bind kk) := by
  have hn : a < xNW := x_kd_lt (by rw [ha]; decide)
  by_cases hi : i < 0 ∨ gL M a ≤ i.toNatClampNeg
  · have e9 : stZ M a i v = none := if_pos hi
    rw [e9]
    exact s_none
  · have e9 : stZ M a i v = some _ := if_neg hi
    have h9 := h _ e9
    rw [e9]
    exact s_put0 (M1 := sA M a i.toNatClampNeg (vp_nar .boolean v)) rfl (fun aa H locs ls Z0 cells slots hP hD hS k => va_zast B.1 B.2.1 B.2.2.2.2.2.2.2.2.2.1 hP hD hS a 1 (xat aa hn (xent_bool g aa M ha)) rfl (xin hi) hd (fun H1 locs1 hP1 hD1 hS1 => by
      rw [xwd_sZ aa i.toNatClampNeg (vp_nar .boolean v) ha] at hP1 hD1
      exact k H1 locs1 hP1 hD1 hS1)) h9
theorem s_last {a : Nat} {i : Int32} {v : Int64} {kk : MS → Option α} (B : xB p R s m args meth c cc nL own (w0 :: T0) rt fr lo D cl (xty g) base) (ha : x_kd a = 23) (hd : decode cc pc = .ok (.lastore, 1)) (h : ∀ M1, stJ M a i v = some M1 → Sn p l e R s m args below meth c nL D cl base (xwd g) cM gr a0 k0 fc Z (pc + 1) st lv M1 (kk M1)) : Sn p l e R s m args below meth c nL D cl base (xwd g) cM gr a0 k0 fc Z pc (.long v :: .int i :: .ref a :: st) lv M ((stJ M a i v).bind kk) := by
  have hn : a < xNW := x_kd_lt (by rw [ha]; decide)
  by_cases hi : i < 0 ∨ gL M a ≤ i.toNatClampNeg
  · have e9 : stJ M a i v = none := if_pos hi
    rw [e9]
    exact s_none
  · have e9 : stJ M a i v = some _ := if_neg hi
    have h9 := h _ e9
    rw [e9]
    exact s_put0 (M1 := sJ M a i.toNatClampNeg (v)) rfl (fun aa H locs ls Z0 cells slots hP hD hS k => va_last B.1 B.2.1 B.2.2.2.2.2.2.2.2.2.1 hP hD hS a 2 (xat aa hn (xent_long g aa M ha)) rfl (xin hi) hd (fun H1 locs1 hP1 hD1 hS1 => by
      rw [xwd_sJ aa i.toNatClampNeg (v) ha] at hP1 hD1
      exact k H1 locs1 hP1 hD1 hS1)) h9
theorem s_alen {a : Nat} (B : xB p R s m args meth c cc nL own (w0 :: T0) rt fr lo D cl (xty g) base) (ha : x_kd a = 20 ∨ x_kd a = 21) (hd : decode cc pc = .ok (.arraylength, 1)) (k : Sn p l e R s m args below meth c nL D cl base (xwd g) cM gr a0 k0 fc Z (pc + 1) (.int (Int32.ofNat (gL M a)) :: st) lv M x) : Sn p l e R s m args below meth c nL D cl base (xwd g) cM gr a0 k0 fc Z pc (.ref a :: st) lv M x := by
  have hn : a < xNW := x_kd_lt (by rcases ha with q | q <;> rw [q] <;> decide)
  exact s_look0 (fun aa H locs ls Z0 cells slots hP k => va_alen B.1 B.2.1 B.2.2.2.2.2.2.2.2.2.1 hP a 0 (xat aa hn (xent_int g aa M ha)) rfl rfl hd k) k
theorem x_rcV {o ci : Nat} {av : List Value} {C : String} {T : u_T} {ty0 : Nat → FieldType} (B : xB p R s m args meth c cc nL own (w0 :: T0) rt fr lo D cl (xty g) base) (hc : xCls cl T0 ci C T ty0) (ho : x_kd o = ci) : ∀ (aa : Nat → Nat) (H : Heap), va_P D cl (xwd g aa M) H → rcV s C H ((Value.ref o :: av).map (xt aa)) := by
  intro aa H hP
  obtain ⟨c1, c2, c3, c4, c5⟩ := hc
  have hn : o < xNW := x_kd_lt (by rw [ho]; omega)
  exact ⟨aa o, av.map (xt aa), rfl, va_recv B.2.2.2.2.2.2.2.2.2.1 hP c1 (xat (g := g) (M := M) aa hn (xent_obj g aa M ho c2))⟩
theorem x_rcS {av : List Value} : ∀ (aa : Nat → Nat) (H : Heap), va_P D cl (xwd g aa M) H → rcS H (av.map (xt aa)) := fun _ _ _ => trivial
theorem s_mmax {index : Nat} {v w : Int32} (B : xB p R s m args meth c cc nL own (w0 :: T0) rt fr lo D cl (xty g) base) (hlk : Cond.methodLink own index Lib.Math.max.name ∈ w0 :: T0) (hst : Cond.static Lib.Math.max.name ∈ w0 :: T0) (hin : Cond.initialized "java/lang/Math" ∈ w0 :: T0) (hco : Cond.code Lib.Math.max.name Lib.Math.max.code 2 (some .int) ∈ w0 :: T0) (hd : decode cc pc = .ok (.invokestatic index, 3)) (hF : 1 ≤ fr) (hL : (st.map fun v => v.category).sum + 13 ≤ lo) (k : Sn p l e R s m args below meth c nL D cl base (xwd g) cM gr a0 k0 fc Z (pc + 3) (.int (if v < w then w else v) :: st) lv M x) : Sn p l e R s m args below meth c nL D cl base (xwd g) cM gr a0 k0 fc Z pc (.int w :: .int v :: st) lv M x := by
  intro r hr
  obtain ⟨h1, h2, h3⟩ := k r hr
  refine ⟨h1, h2, fun aa H locs ls ha hw hl g1 g2 g3 g4 => ?_⟩
  have hsum : ((st.map (xt aa)).map fun v => v.category).sum = (st.map fun v => v.category).sum := by rw [List.map_map]; simp [Function.comp_def, xt_cat]
  exact va_mmax B.1 B.2.1 (B.2.2.1.trans hl.1.symm) B.2.2.2.1 (B.2.2.2.2.1 _ hlk) (B.2.2.2.2.1 _ hst) (B.2.2.2.2.1 _ hin) (B.2.2.2.2.1 _ hco) (by rw [B.2.2.2.2.2.2.2.1]; exact hF) (by rw [B.2.2.2.2.2.2.2.2.1, hsum]; exact hL) (by omega) (by omega) hd (h3 aa H locs ls ha hw hl g1 g2 g3 g4)
theorem s_mmin {index : Nat} {v w : Int32} (B : xB p R s m args meth c cc nL own (w0 :: T0) rt fr lo D cl (xty g) base) (hlk : Cond.methodLink own index Lib.Math.min.name ∈ w0 :: T0) (hst : Cond.static Lib.Math.min.name ∈ w0 :: T0) (hin : Cond.initialized "java/lang/Math" ∈ w0 :: T0) (hco : Cond.code Lib.Math.min.name Lib.Math.min.code 2 (some .int) ∈ w0 :: T0) (hd : decode cc pc = .ok (.invokestatic index, 3)) (hF : 1 ≤ fr) (hL : (st.map fun v => v.category).sum + 13 ≤ lo) (k : Sn p l e R s m args below meth c nL D cl base (xwd g) cM gr a0 k0 fc Z (pc + 3) (.int (if w < v then w else v) :: st) lv M x) : Sn p l e R s m args below meth c nL D cl base (xwd g) cM gr a0 k0 fc Z pc (.int w :: .int v :: st) lv M x := by
  intro r hr
  obtain ⟨h1, h2, h3⟩ := k r hr
  refine ⟨h1, h2, fun aa H locs ls ha hw hl g1 g2 g3 g4 => ?_⟩
  have hsum : ((st.map (xt aa)).map fun v => v.category).sum = (st.map fun v => v.category).sum := by rw [List.map_map]; simp [Function.comp_def, xt_cat]
  exact va_mmin B.1 B.2.1 (B.2.2.1.trans hl.1.symm) B.2.2.2.1 (B.2.2.2.2.1 _ hlk) (B.2.2.2.2.1 _ hst) (B.2.2.2.2.1 _ hin) (B.2.2.2.2.1 _ hco) (by rw [B.2.2.2.2.2.2.2.1]; exact hF) (by rw [B.2.2.2.2.2.2.2.2.1, hsum]; exact hL) (by omega) (by omega) hd (h3 aa H locs ls ha hw hl g1 g2 g3 g4)
def stC (M : MS) (a : Nat) (sp : Int32) (b : Nat) (dp n : Int32) : Option MS := if sp < 0 ∨ dp < 0 ∨ n < 0 ∨ gL M a < sp.toNatClampNeg + n.toNatClampNeg ∨ gL M b < dp.toNatClampNeg + n.toNatClampNeg then none else some (fun q => if q = b then va_cpy (gA M a) (gA M b) sp.toNatClampNeg dp.toNatClampNeg n.toNatClampNeg else M.1 q, M.2)
theorem xwd_sF {a : Nat} (aa : Nat → Nat) (f : Nat → Int32) (ha : x_kd a = 20 ∨ x_kd a = 21) : (xwd g aa M).set a (aa a, .inl (g 0, gL M a, .inl f)) = xwd g aa (fun q => if q = a then f else M.1 q, M.2) := by
  rw [← xwd_set g aa (M := M) (M1 := (fun q => if q = a then f else M.1 q, M.2)) (o := a) (x_kd_lt (by rcases ha with h | h <;> rw [h] <;> decide))]
  · rw [xent_int g aa _ ha]
    simp [gA, gL]
  · intro n hn
    apply xent_congr <;> simp [gA, gJ, gL, gI, gD, hn]
theorem s_acopy {index a b : Nat} {sp dp n : Int32} {kk : MS → Option α} (B : xB p R s m args meth c cc nL own (w0 :: T0) rt fr lo D cl (xty g) base) (hlk : Cond.methodLink own index arraycopyName ∈ w0 :: T0) (hna : Cond.native arraycopyName ∈ w0 :: T0) (hst : Cond.static arraycopyName ∈ w0 :: T0) (hin : Cond.initialized "java/lang/System" ∈ w0 :: T0) (ha : x_kd a = 20 ∨ x_kd a = 21) (hb : x_kd b = 20 ∨ x_kd b = 21) (hd : decode cc pc = .ok (.invokestatic index, 3)) (hF : 1 ≤ fr) (hL : (st.map fun v => v.category).sum + (nativeFrameWords "java/lang/System" "arraycopy" 5 + 11) ≤ lo)
    (h : ∀ M1, stC M a sp b dp n = some M1 → Sn p l e R s m args below meth c nL D cl base (xwd g) cM gr a0 k0 fc Z (pc + 3) st lv M1 (kk M1)) : Sn p l e R s m args below meth c nL D cl base (xwd g) cM gr a0 k0 fc Z pc (.int n :: .int dp :: .ref b :: .int sp :: .ref a :: st) lv M ((stC M a sp b dp n).bind kk) := by
  have hna' : a < xNW := x_kd_lt (by rcases ha with q | q <;> rw [q] <;> decide)
  have hnb : b < xNW := x_kd_lt (by rcases hb with q | q <;> rw [q] <;> decide)
  by_cases hi : sp < 0 ∨ dp < 0 ∨ n < 0 ∨ gL M a < sp.toNatClampNeg + n.toNatClampNeg ∨ gL M b < dp.toNatClampNeg + n.toNatClampNeg
  · have e9 : stC M a sp b dp n = none := if_pos hi
    rw [e9]
    exact s_none
  · have e9 : stC M a sp b dp n = some _ := if_neg hi
    have h9 := h _ e9
    rw [e9]
    simp only [not_or] at hi
    obtain ⟨i1, i2, i3, i4, i5⟩ := hi
    intro r hr
    obtain ⟨h1, h2, h3⟩ := h9 r hr
    refine ⟨h1, h2, fun aa H locs ls ha' hw hl g1 g2 g3 g4 => ?_⟩
    have hsum : ((st.map (xt aa)).map fun v => v.category).sum = (st.map fun v => v.category).sum := by rw [List.map_map]; simp [Function.comp_def, xt_cat]
    obtain ⟨hP, hD, hS⟩ := hw
    refine va_copyi (ty := .int) B.1 B.2.1 (B.2.2.1.trans hl.1.symm) B.2.2.2.1 (B.2.2.2.2.1 _ hlk) (B.2.2.2.2.1 _ hna) (B.2.2.2.2.1 _ hst) (B.2.2.2.2.1 _ hin) B.2.2.2.2.2.2.2.2.2.1 hP hD hS a b 0 0 (xat aa hna' (xent_int g aa M ha)) (xat aa hnb (xent_int g aa M hb)) rfl rfl rfl i1 i2 i3 (by omega) (by omega) (fun _ _ => rfl) (by rw [B.2.2.2.2.2.2.2.1]; exact hF) (by rw [B.2.2.2.2.2.2.2.2.1, hsum]; exact hL) hd ?_
    intro H1 locs1 hP1 hD1 hS1
    rw [xwd_sF aa _ hb] at hP1 hD1
    exact h3 aa H1 locs1 ls ha' ⟨hP1, hD1, hS1⟩ hl g1 g2 g3 g4
end SNH
