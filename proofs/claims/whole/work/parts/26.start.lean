/-! the law's start: both objects made, then the models' own state -/
def mL_fil2 (a0 : Nat) (a1 : Int32) (S : LW) : Option (LW × Unit) := (iaL S a0).bind fun q => if q.1 < 2147483648 then some ((S.1.set a0 (.inl (0, q.1, .inl (fun j => if j < q.1 then a1 else q.2 j))), S.2), ()) else mL_fill a0 a1 S
theorem xi_lt (i n : Nat) (hn : n < 2147483648) (hi : i ≤ n) : (Int32.ofNat n ≤ Int32.ofNat i ↔ n ≤ i) ∧ ¬ (Int32.ofNat i < 0) ∧ (Int32.ofNat i).toNatClampNeg = i ∧ Int32.ofNat i + 1 = Int32.ofNat (i + 1) := by
  have e1 : (Int32.ofNat i).toInt = (i : Int) := Int32.toInt_ofNat_of_lt (by omega)
  have e2 : (Int32.ofNat n).toInt = (n : Int) := Int32.toInt_ofNat_of_lt (by omega)
  refine ⟨?_, ?_, ?_, ?_⟩
  · rw [Int32.le_iff_toInt_le, e1, e2]; omega
  · rw [Int32.lt_iff_toInt_lt, e1]; simp
  · show (Int32.ofNat i).toInt.toNat = i
    rw [e1]; omega
  · rw [show (1 : Int32) = Int32.ofNat 1 from rfl, ← Int32.ofNat_add]
theorem xset_self {α : Type} {l : List α} {i : Nat} {x : α} (h : l[i]? = some x) : l.set i x = l := by
  apply List.ext_getElem?
  intro j
  rw [List.getElem?_set]
  by_cases hj : i = j
  · subst hj
    rw [if_pos rfl, if_pos (List.getElem?_eq_some_iff.mp h).1, h]
  · rw [if_neg hj]
theorem xfill (S : LW) (a n : Nat) (f : Nat → Int32) (v : Int32) (hn : n < 2147483648) (ha : a < S.1.length) : ∀ (d i F : Nat), n - i = d → i ≤ n → d < F →
    fx (fun (k : Nat × Int32 × Int32 × Int32 × LW → Option (LW × Unit)) (i : Nat × Int32 × Int32 × Int32 × LW) => mL_fill_5b k i.1 i.2.1 i.2.2.1 i.2.2.2.1 i.2.2.2.2) F (a, v, Int32.ofNat i, Int32.ofNat n, (S.1.set a (.inl (0, n, .inl (fun j => if j < i then v else f j))), S.2)) = some ((S.1.set a (.inl (0, n, .inl (fun j => if j < n then v else f j))), S.2), ()) := by
  intro d
  induction d with
  | zero =>
    intro i F h1 h2 h3
    have hi : i = n := by omega
    subst hi
    cases F with
    | zero => omega
    | succ F =>
      show mL_fill_5b _ a v (Int32.ofNat i) (Int32.ofNat i) _ = _
      unfold mL_fill_5b
      rw [if_pos ((xi_lt i i hn (Nat.le_refl _)).1.mpr (Nat.le_refl _))]
  | succ d ih =>
    intro i F h1 h2 h3
    cases F with
    | zero => omega
    | succ F =>
      obtain ⟨c1, c2, c3, c4⟩ := xi_lt i n hn h2
      show mL_fill_5b _ a v (Int32.ofNat i) (Int32.ofNat n) _ = _
      unfold mL_fill_5b
      rw [if_neg (fun q => absurd (c1.mp q) (by omega))]
      have h5 : iaL (S.1.set a (.inl (0, n, .inl (fun j => if j < i then v else f j))), S.2) a = some (n, fun j => if j < i then v else f j) := by
        unfold iaL
        show (match (S.1.set a _)[a]? with
          | some (.inl (t, n, .inl f)) => if t = 0 then some (n, f) else none
          | _ => none) = _
        rw [List.getElem?_set_self ha]
        rfl
      have h6 : stL (S.1.set a (.inl (0, n, .inl (fun j => if j < i then v else f j))), S.2) a (Int32.ofNat i) v = some (S.1.set a (.inl (0, n, .inl (fun j => if j < i + 1 then v else f j))), S.2) := by
        unfold stL
        rw [h5]
        show (if Int32.ofNat i < 0 ∨ n ≤ (Int32.ofNat i).toNatClampNeg then none else some _) = _
        rw [if_neg (by rw [c3]; intro q; rcases q with q | q; exact c2 q; omega), c3]
        have hup : upd (fun j => if j < i then v else f j) i v = fun j => if j < i + 1 then v else f j := by
          funext j
          unfold upd
          by_cases hj : j = i
          · subst hj; simp
          · by_cases hj2 : j < i
            · have : j < i + 1 := by omega
              simp [hj, hj2, this]
            · have : ¬ j < i + 1 := by omega
              simp [hj, hj2, this]
        rw [hup]
        simp [List.set_set]
      rw [h6, c4]
      exact ih (i + 1) F (by omega) (by omega) (by omega)
theorem mL_fil_eq : mL_fill = mL_fil2 := by
  funext a v S
  unfold mL_fil2
  cases h : iaL S a with
  | none =>
    unfold mL_fill lnL
    rw [h]
    rfl
  | some q =>
    obtain ⟨n, f⟩ := q
    show _ = if n < 2147483648 then _ else _
    by_cases hn : n < 2147483648
    · rw [if_pos hn]
      unfold mL_fill lnL
      rw [h]
      show mL_fill_5 (a, v, 0, Int32.ofNat n, S) = _
      have h1 := iaL_at h
      have ha := (List.getElem?_eq_some_iff.mp h1).1
      have h2 := xfill S a n f v hn ha n 0 FU (by omega) (Nat.zero_le _) (Nat.lt_trans hn (by decide))
      have h3 : S.1.set a (.inl (0, n, .inl (fun j => if j < 0 then v else f j))) = S.1 := by
        have : (fun j => if j < 0 then v else f j) = f := by funext j; simp
        rw [this]
        exact xset_self h1
      rw [h3] at h2
      exact h2
    · rw [if_neg hn]
/-- the models' state out of the list -/
def MofL (S : LW) : MS :=
  (fun n j => match S.1[n]? with
    | some (.inl (_, _, .inl f)) => f j
    | _ => 0,
   fun n j => match S.1[n]? with
    | some (.inl (_, _, .inr (.inl f))) => f j
    | _ => 0,
   fun n => match S.1[n]? with
    | some (.inl (_, len, _)) => len
    | _ => 0,
   fun n k => match S.1[n]? with
    | some (.inr (_, fs)) => (match fs[k]? with
      | some (.int v) => v
      | _ => 0)
    | _ => 0,
   fun n k => match S.1[n]? with
    | some (.inr (_, fs)) => (match fs[k]? with
      | some (.ref r) => r
      | _ => 0)
    | _ => 0,
   S.2)
def chF (n ci k : Nat) (o : Option Value) : Bool := match o with
  | some (.int _) => x_ft ci k == 0
  | some (.ref r) => (x_ft ci k == 1 && x_sr n k == r) || x_ft ci k == 2
  | _ => false
def chE (n : Nat) (E : xE) : Bool := match E with
  | .inr (ci, fs) => x_kd n == ci && (decide (ci < 20) && (fs.length == x_Nf ci && (List.range (x_Nf ci)).all (fun k => chF n ci k fs[k]?)))
  | .inl (t, _, .inl _) => (t == 0 && (x_kd n == 20 || x_kd n == 21)) || (t == 1 && x_kd n == 22)
  | .inl (t, _, .inr (.inl _)) => t == 2 && x_kd n == 23
  | .inl (t, len, .inr (.inr f)) => t == 3 && (x_kd n == 24 && (len == 16 && f == (List.range 16).map (fun j => some (x_sm j))))
def chL (S : LW) : Bool := S.1.length == xNW && S.1.zipIdx.all (fun q => chE q.2 q.1)
theorem chL_at {S : LW} (h : chL S = true) {n : Nat} {E : xE} (hn : S.1[n]? = some E) : chE n E = true := by
  unfold chL at h
  rw [Bool.and_eq_true] at h
  have h2 := List.all_eq_true.mp h.2 (E, n) (by rw [List.mem_zipIdx_iff_getElem?]; exact hn)
  exact h2
theorem arrV_cg {cI : ClassId} {N : Nat} {f f' : Nat → Value} (h : ∀ j, j < N → f j = f' j) : arrV cI N f = arrV cI N f' := by
  unfold arrV
  congr 2
  funext j
  exact h j.val j.isLt
theorem xent_L {D : va_G} {g : Nat → ClassId} {aa : Nat → Nat} {S : LW} {n : Nat} {E : xE} {H : Heap} (hn : S.1[n]? = some E) (hc : chE n E = true) (hP : va_at D x_cl (aa n, xeE g aa E) H) : va_at D x_cl (aa n, xent g aa (MofL S) n) H := by
  obtain ⟨t, len, f | f | f⟩ | ⟨ci, fs⟩ := E
  · have hA : gA (MofL S) n = f := by
      funext j
      show (match S.1[n]? with
        | some (.inl (_, _, .inl f)) => f j
        | _ => 0) = _
      rw [hn]
    have hL : gL (MofL S) n = len := by
      show (match S.1[n]? with
        | some (.inl (_, len, _)) => len
        | _ => 0) = _
      rw [hn]
    have hc : ((t == 0 && (x_kd n == 20 || x_kd n == 21)) || (t == 1 && x_kd n == 22)) = true := hc
    simp only [Bool.or_eq_true, Bool.and_eq_true, beq_iff_eq] at hc
    rcases hc with ⟨rfl, hk⟩ | ⟨rfl, hk⟩
    · rw [xent_int g aa _ hk, hA, hL]
      exact hP
    · rw [xent_bool g aa _ hk, hA, hL]
      exact hP
  · have hJ : gJ (MofL S) n = f := by
      funext j
      show (match S.1[n]? with
        | some (.inl (_, _, .inr (.inl f))) => f j
        | _ => 0) = _
      rw [hn]
    have hL : gL (MofL S) n = len := by
      show (match S.1[n]? with
        | some (.inl (_, len, _)) => len
        | _ => 0) = _
      rw [hn]
    have hc : (t == 2 && x_kd n == 23) = true := hc
    simp only [Bool.and_eq_true, beq_iff_eq] at hc
    obtain ⟨rfl, hk⟩ := hc
    rw [xent_long g aa _ hk, hJ, hL]
    exact hP
  · have hL : gL (MofL S) n = len := by
      show (match S.1[n]? with
        | some (.inl (_, len, _)) => len
        | _ => 0) = _
      rw [hn]
    have hc : (t == 3 && (x_kd n == 24 && (len == 16 && f == (List.range 16).map (fun j => some (x_sm j))))) = true := hc
    simp only [Bool.and_eq_true, beq_iff_eq] at hc
    obtain ⟨rfl, hk, rfl, rfl⟩ := hc
    rw [xent_refs g aa _ hk, hL]
    have hP : H[aa n]? = some (vp_cell (g 3) (16, .inr (.inr (.inr (.inr (fun j => (((List.range 16).map (fun j => some (x_sm j))).getD j none).map aa)))))) := hP
    show H[aa n]? = some (vp_cell (g 3) (16, .inr (.inr (.inr (.inr (fun j => some (aa (x_sm j))))))))
    rw [hP]
    congr 1
  · have hc : (x_kd n == ci && (decide (ci < 20) && (fs.length == x_Nf ci && (List.range (x_Nf ci)).all (fun k => chF n ci k fs[k]?)))) = true := hc
    simp only [Bool.and_eq_true, beq_iff_eq, decide_eq_true_eq] at hc
    obtain ⟨hk, hci, hlen, hall⟩ := hc
    rw [xent_obj g aa _ hk hci]
    have he : fs.map (xt aa) = (List.range (x_Nf ci)).map (xf aa (MofL S) n) := by
      apply List.ext_getElem?
      intro k
      rw [List.getElem?_map, List.getElem?_map]
      by_cases hkn : k < x_Nf ci
      · have h9 := List.all_eq_true.mp hall k (List.mem_range.mpr hkn)
        rw [List.getElem?_range hkn]
        have hI : gI (MofL S) n k = (match fs[k]? with
          | some (.int v) => v
          | _ => 0) := by
          show (match S.1[n]? with
            | some (.inr (_, fs)) => (match fs[k]? with
              | some (.int v) => v
              | _ => 0)
            | _ => 0) = _
          rw [hn]
        have hR : gD (MofL S) n k = (match fs[k]? with
          | some (.ref r) => r
          | _ => 0) := by
          show (match S.1[n]? with
            | some (.inr (_, fs)) => (match fs[k]? with
              | some (.ref r) => r
              | _ => 0)
            | _ => 0) = _
          rw [hn]
        simp only [Option.map_some]
        unfold xf
        rw [hI, hR, hk]
        cases hv : fs[k]? with
        | none => rw [hv] at h9; cases h9
        | some v =>
          rw [hv] at h9
          cases v with
          | int v =>
            have h9 : (x_ft ci k == 0) = true := h9
            rw [beq_iff_eq] at h9
            rw [if_pos h9]
            rfl
          | ref r =>
            have h9 : ((x_ft ci k == 1 && x_sr n k == r) || x_ft ci k == 2) = true := h9
            simp only [Bool.or_eq_true, Bool.and_eq_true, beq_iff_eq] at h9
            rcases h9 with ⟨h1, h2⟩ | h1
            · rw [if_neg (by rw [h1]; decide), if_pos h1, h2]
              rfl
            · rw [if_neg (by rw [h1]; decide), if_neg (by rw [h1]; decide)]
              rfl
          | _ => cases h9
      · rw [List.getElem?_eq_none (by rw [hlen]; omega), List.getElem?_eq_none (by simp; omega)]
        rfl
    have hP : va_at D x_cl (aa n, .inr (ci, fs.map (xt aa))) H := hP
    rw [he] at hP
    exact hP
section STT
variable {p : Program} {l : Launch} {e : Env} {R : Room} {s : State} {m : MethodId} {args : Array Value} {below : List Frame} {meth : Method} {c : Code} {nL : Nat} {D : va_G} {base n0 : Nat}
variable {α : Type} {g : Nat → ClassId} {a0 : Nat → Nat} {fc : α → Nat × Nat} {Z : α → State → Prop}
variable {pc : Nat} {st : List Value} {lv : List (Nat × Value)} {S : LW} {x : Option α}
theorem s_turn {b : Nat} (hc : chL S = true) (hb : a0 999 = b) (k : ∀ az : Nat → Nat, az 999 = b → Sn p l e R s m args below meth c nL D x_cl base (xwd g) cM x_gr az (0, 0) fc Z pc st lv (MofL S) x) :
    Sn p l e R s m args below meth c nL D x_cl base (wdL g) cL (grn 0) a0 (0, 0) fc Z pc st lv S x := by
  intro r hr
  obtain ⟨h1, h2, -⟩ := k a0 hb r hr
  refine ⟨h1, h2, fun aa H locs ls ha hw hl g1 g2 g3 g4 => ?_⟩
  have h9 : aa 999 = b := (ha 999 (by decide)).trans hb
  obtain ⟨-, -, h3⟩ := k aa h9 r hr
  have hlen : S.1.length = xNW := by
    unfold chL at hc
    rw [Bool.and_eq_true, beq_iff_eq] at hc
    exact hc.1
  have hx : ∀ (n : Nat) (q : Nat × va_E), (xwd g aa (MofL S))[n]? = some q → ∃ E, S.1[n]? = some E ∧ q = (aa n, xent g aa (MofL S) n) := by
    intro n q hq
    rw [xwd_get] at hq
    split at hq
    · rename_i hn
      cases hq
      exact ⟨_, List.getElem?_eq_getElem (by rw [hlen]; exact hn), rfl⟩
    · cases hq
  refine h3 aa H locs ls xag.rf ⟨fun n q hq => ?_, ⟨fun i j q1 q2 e1 e2 e3 => ?_, fun n q hq => ?_⟩, hw.2.2⟩ hl g1 g2 g3 g4
  · obtain ⟨E, hE, rfl⟩ := hx n q hq
    exact xent_L hE (chL_at hc hE) (hw.1 n _ (wdL_some hE))
  · obtain ⟨E1, hE1, rfl⟩ := hx i q1 e1
    obtain ⟨E2, hE2, rfl⟩ := hx j q2 e2
    exact hw.2.1.1 i j _ _ (wdL_some hE1) (wdL_some hE2) e3
  · obtain ⟨E, hE, rfl⟩ := hx n q hq
    have h8 := hw.2.1.2 n _ (wdL_some (g := g) (aa := aa) hE)
    exact h8
end STT
