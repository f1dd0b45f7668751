/-! STEP 2, the class: the search for the least word -/
theorem sl_app {v w : List Nat} : ∀ (z : List Nat) {v w : List Nat}, ¬ sl v w → ¬ sl (v ++ z) (w ++ z) := by
  intro z
  induction z with
  | nil => intro v w h; rw [List.append_nil, List.append_nil]; exact h
  | cons c z ih =>
    intro v w h
    have := ih (sl_n_snoc (c := c) h)
    rw [List.append_assoc, List.append_assoc] at this
    exact this
theorem sl_pre (v : List Nat) (z : List Nat) : ¬ sl (v ++ z) v := by
  intro h
  cases z with
  | nil => rw [List.append_nil] at h; exact sl_irr v h
  | cons c z =>
    unfold sl at h
    rw [List.length_append, List.length_cons] at h
    omega
def vz (q p : List (List Nat)) (z : List Nat) (x : Nat) : Bool := if x < q.length then NS (run (q.getD x []) z) else NS (run (p.getD (x - q.length) []) z)
theorem vz_l {q p : List (List Nat)} {z : List Nat} {x : Nat} (h : x < q.length) : vz q p z x = NS (run (q.getD x []) z) := if_pos h
theorem vz_r {q p : List (List Nat)} {z : List Nat} {y : Nat} : vz q p z (q.length + y) = NS (run (p.getD y []) z) := by
  unfold vz
  rw [if_neg (by omega), Nat.add_sub_cancel_left]
def PRv (q : List (List Nat)) (n : Nat) (X Y : Nat → Nat) (v : Nat → Bool) : Prop := ∀ m, m < n → v (X m) = v (q.length + Y m)
def RCm : List Nat := [87, 88, 89, 90, 91]
/-- the pairs kept so far, those before k done, of k the letters below c -/
def CB (t u : List Nat) (q p : List (List Nat)) (M0 : MS) (n k c : Nat) (X Y : Nat → Nat) (D : Nat → List Nat) (M : MS) : Prop :=
  (0 < n ∧ X 0 = 0 ∧ Y 0 = 0 ∧ D 0 = [] ∧ n < 300) ∧
  (∀ m, m < n → X m < q.length ∧ Y m < p.length ∧ q.getD (X m) [] = run t (D m) ∧ p.getD (Y m) [] = run u (D m) ∧ lw4 (D m)) ∧
  (∀ i j, i < j → j < n → sl (D i) (D j)) ∧
  (gA M 90 0 = -1 ∧ ∀ m, m < n → gA M 88 m = Int32.ofNat (X m) ∧ gA M 89 m = Int32.ofNat (Y m)) ∧
  (∀ m, 0 < m → m < n → ∃ f d, f < m ∧ d < 4 ∧ (f < k ∨ (f = k ∧ d < c)) ∧ D m = D f ++ [d] ∧ gA M 90 m = Int32.ofNat f ∧ gA M 91 m = Int32.ofNat d) ∧
  (∃ L h rs, UFr M (q.length + p.length) n L h rs ∧ ∀ v, PRv q n X Y v → ∀ x, x < q.length + p.length → v (L x) = v x) ∧
  (∀ j d, j < n → d < 4 → (j < k ∨ (j = k ∧ d < c)) → ∀ z, lw4 z → tellA (run t (D j ++ [d])) (run u (D j ++ [d])) z → ∃ m, m < n ∧ tellA (run t (D m)) (run u (D m)) z ∧ ¬ sl (D j ++ [d]) (D m)) ∧
  (∀ j, j < n → NS (run t (D j)) = NS (run u (D j))) ∧ gI M 86 6 = Int32.ofNat n ∧ Fr RCm [(86, 6)] M0 M
theorem CB.before {t u : List Nat} {q p : List (List Nat)} {M0 M : MS} {n k c : Nat} {X Y : Nat → Nat} {D : Nat → List Nat} (h : CB t u q p M0 n k c X Y D M) (hk : k < n) : ∀ i, i < n → sl (D i) (D k ++ [c]) := by
  intro i hi
  obtain ⟨⟨-, -, -, h0, -⟩, -, hs, -, ho, -⟩ := h
  by_cases hi0 : i = 0
  · rw [hi0, h0]
    left
    rw [List.length_append, List.length_singleton, List.length_nil]
    omega
  · obtain ⟨f, d, h1, h2, h3, h4, -⟩ := ho i (by omega) hi
    rw [h4]
    rcases h3 with h3 | ⟨h3, h5⟩
    · exact sl_snoc (hs f k h3 hk) h2
    · rw [h3]
      exact sl_let h5
/-- no word below a bound tells a kept pair apart -/
theorem CB.low {t u : List Nat} {q p : List (List Nat)} {M0 M : MS} {n k c : Nat} {X Y : Nat → Nat} {D : Nat → List Nat} (h : CB t u q p M0 n k c X Y D M) {Q : List Nat → Prop} (hQ1 : ∀ w w', Q w → ¬ sl w w' → Q w') (hQ2 : ∀ j d, j < n → d < 4 → Q (D j ++ [d]) → (j < k ∨ (j = k ∧ d < c))) :
    ∀ (z : List Nat), lw4 z → ∀ i, i < n → tellA (run t (D i)) (run u (D i)) z → ¬ Q (D i ++ z) := by
  obtain ⟨-, -, -, -, -, -, hc, hu, -⟩ := h
  intro z
  induction z with
  | nil =>
    intro _ i hi ht _
    exact ht (hu i hi)
  | cons d z ih =>
    intro hz i hi ht hq
    have hd : d < 4 := hz d List.mem_cons_self
    have hz' : lw4 z := fun x hx => hz x (List.mem_cons_of_mem _ hx)
    have e : D i ++ d :: z = (D i ++ [d]) ++ z := by rw [List.append_assoc]; rfl
    rw [e] at hq
    have hp := hQ2 i d hi hd (hQ1 _ _ hq (sl_pre _ _))
    have ht' : tellA (run t (D i ++ [d])) (run u (D i ++ [d])) z := by
      unfold tellA at ht ⊢
      rw [← run_app, ← run_app] at ht
      rw [← run_app, ← run_app, ← e]
      exact ht
    obtain ⟨m, m1, m2, m3⟩ := hc i d hi hd hp z hz' ht'
    exact ih hz' m m1 m2 (hQ1 _ _ hq (sl_app (v := []) (w := []) z m3))
theorem CB.least {t u : List Nat} {q p : List (List Nat)} {M0 M : MS} {n k c : Nat} {X Y : Nat → Nat} {D : Nat → List Nat} (h : CB t u q p M0 n k c X Y D M) (hk : k < n) (hc : c < 4) (hne : NS (run t (D k ++ [c])) ≠ NS (run u (D k ++ [c]))) : LeastW t u (D k ++ [c]) := by
  refine ⟨lw4_snoc (h.2.1 k hk).2.2.2.2 hc, hne, fun v hv ht hs => ?_⟩
  have := h.low (Q := fun w => sl w (D k ++ [c])) (fun w w' h1 h2 => sl_ntr h2 h1) (fun j d hj hd hq => by
    by_cases hjk : j < k
    · exact Or.inl hjk
    · by_cases e : j = k
      · refine Or.inr ⟨e, ?_⟩
        rw [e] at hq
        by_cases hdc : d < c
        · exact hdc
        · by_cases hde : d = c
          · rw [hde] at hq; exact absurd hq (sl_irr _)
          · exact absurd hq (sl_asy (sl_let (by omega)))
      · exact absurd hq (sl_asy (sl_snoc (h.2.2.1 k j (by omega) hj) hc))) v hv 0 h.1.1 (by rw [h.1.2.2.2.1]; exact ht)
  rw [h.1.2.2.2.1] at this
  exact this hs
theorem CB.eqv {t u : List Nat} {q p : List (List Nat)} {M0 M : MS} {n k : Nat} {X Y : Nat → Nat} {D : Nat → List Nat} (h : CB t u q p M0 n k 0 X Y D M) (hk : n ≤ k) : Eqv t u := fun v hv => by
  refine Classical.byContradiction (fun hne => ?_)
  have := h.low (Q := fun _ => True) (fun _ _ _ _ => trivial) (fun j d hj hd _ => Or.inl (by omega)) v hv 0 h.1.1 (by rw [h.1.2.2.2.1]; exact hne)
  exact this trivial
theorem CB.tells {t u : List Nat} {q p : List (List Nat)} {M0 M : MS} {n k c : Nat} {X Y : Nat → Nat} {D : Nat → List Nat} (hq : Mch t q) (hp : Mch u p) (h : CB t u q p M0 n k c X Y D M) (hk : k < n) (hc : c < 4) (hv : ∀ v, PRv q n X Y v → v (nxq q (X k) c) = v (q.length + nxq p (Y k) c)) : ∀ z, lw4 z → tellA (run t (D k ++ [c])) (run u (D k ++ [c])) z → ∃ m, m < n ∧ tellA (run t (D m)) (run u (D m)) z := by
  intro z hz ht
  refine Classical.byContradiction (fun hno => ht ?_)
  obtain ⟨k1, k2, k3, k4, k5⟩ := h.2.1 k hk
  obtain ⟨x1, x2⟩ := nxq_lt hq k1 hc
  obtain ⟨y1, y2⟩ := nxq_lt hp k2 hc
  have := hv (vz q p z) (fun m hm => by
    obtain ⟨m1, m2, m3, m4, m5⟩ := h.2.1 m hm
    rw [vz_l m1, vz_r, m3, m4]
    exact Classical.byContradiction (fun hne => hno ⟨m, hm, hne⟩))
  rw [vz_l x1, vz_r, x2, y2, k3, k4] at this
  rw [run_app, run_app]
  exact this
theorem CB.met {t u : List Nat} {q p : List (List Nat)} {M0 M M1 : MS} {n k c : Nat} {X Y : Nat → Nat} {D : Nat → List Nat} {L h : Nat → Nat} {rs : List Nat} (hq : Mch t q) (hp : Mch u p) (hB : CB t u q p M0 n k c X Y D M) (hk : k < n) (hc : c < 4) (hf : Fr [87] [] M M1) (hU : UFr M1 (q.length + p.length) n L h rs) (hP : ∀ v, PRv q n X Y v → ∀ x, x < q.length + p.length → v (L x) = v x)
    (hv : ∀ v, PRv q n X Y v → v (nxq q (X k) c) = v (q.length + nxq p (Y k) c)) : CB t u q p M0 n k (c + 1) X Y D M1 := by
  have hb := hB.before hk
  have ht := hB.tells hq hp hk hc hv
  obtain ⟨h1, h2, h3, h4, h5, h6, h7, h8, h9, h10⟩ := hB
  refine ⟨h1, h2, h3, ⟨by rw [hf.ga (by decide)]; exact h4.1, fun m hm => by rw [hf.ga (by decide), hf.ga (by decide)]; exact h4.2 m hm⟩, fun m hm0 hmn => ?_, ⟨L, h, rs, hU, hP⟩, fun j d hj hd hjd => ?_, h8, by rw [hf.gi (by simp)]; exact h9, h10.tr (hf.mono (by decide) (by simp))⟩
  · obtain ⟨f, d, g1, g2, g3, g4, g5⟩ := h5 m hm0 hmn
    exact ⟨f, d, g1, g2, by omega, g4, by rw [hf.ga (by decide), hf.ga (by decide)]; exact g5⟩
  · by_cases he : j = k ∧ d = c
    · rw [he.1, he.2]
      intro z hz htl
      obtain ⟨m, m1, m2⟩ := ht z hz htl
      exact ⟨m, m1, m2, sl_asy (hb m m1)⟩
    · exact h7 j d hj hd (by omega)
/-- the state behind a new pair -/
def pst (M : MS) (n : Nat) (f d : Int32) : MS := sI (sA (sA M 90 n f) 91 n d) 86 6 (Int32.ofNat (n + 1))
theorem pst_fr (M : MS) (n : Nat) (f d : Int32) : Fr [90, 91] [(86, 6)] M (pst M n f d) := ((Fr.stA (by decide)).tr (Fr.stA (by decide))).tr (Fr.stI (by decide))
theorem pst_90 (M : MS) (n : Nat) (f d : Int32) (m : Nat) : gA (pst M n f d) 90 m = if m = n then f else gA M 90 m := by
  unfold pst
  rw [gA_sI, gA_sA, if_neg (by omega), gA_sA]
  simp
theorem pst_91 (M : MS) (n : Nat) (f d : Int32) (m : Nat) : gA (pst M n f d) 91 m = if m = n then d else gA M 91 m := by
  unfold pst
  rw [gA_sI, gA_sA]
  by_cases e : m = n
  · rw [if_pos ⟨rfl, e⟩, if_pos e]
  · rw [if_neg (by omega), if_neg e, gA_sA, if_neg (by omega)]
theorem pst_6 (M : MS) (n : Nat) (f d : Int32) : gI (pst M n f d) 86 6 = Int32.ofNat (n + 1) := by
  unfold pst
  rw [gI_sI, if_pos ⟨rfl, rfl⟩]
theorem UFr.keep {M M1 : MS} {N n : Nat} {L h : Nat → Nat} {rs : List Nat} (hU : UFr M N n L h rs) (e : gA M1 87 = gA M 87) : UFr M1 N n L h rs := by
  unfold UFr
  rw [e]
  exact hU
theorem CB.push {t u : List Nat} {q p : List (List Nat)} {M0 M M1 : MS} {n k c : Nat} {X Y : Nat → Nat} {D : Nat → List Nat} {L h : Nat → Nat} {rs : List Nat} (hq : Mch t q) (hp : Mch u p) (hB : CB t u q p M0 n k c X Y D M) (hk : k < n) (hc : c < 4) (hf : Fr [87, 88, 89] [] M M1) (hU : UFr M1 (q.length + p.length) (n + 1) L h rs) (hP : ∀ v, PRv q n X Y v → v (nxq q (X k) c) = v (q.length + nxq p (Y k) c) → ∀ x, x < q.length + p.length → v (L x) = v x)
    (e88 : ∀ m, gA M1 88 m = if m = n then Int32.ofNat (nxq q (X k) c) else gA M 88 m) (e89 : ∀ m, gA M1 89 m = if m = n then Int32.ofNat (nxq p (Y k) c) else gA M 89 m) (hn : n + 1 < 300) (hns : NS (run t (D k ++ [c])) = NS (run u (D k ++ [c]))) :
    CB t u q p M0 (n + 1) k (c + 1) (updN X n (nxq q (X k) c)) (updN Y n (nxq p (Y k) c)) (updN D n (D k ++ [c])) (pst M1 n (Int32.ofNat k) (Int32.ofNat c)) := by
  have hb := hB.before hk
  obtain ⟨⟨h1, h1x, h1y, h1d, -⟩, h2, h3, h4, h5, -, h7, h8, h9, h10⟩ := hB
  obtain ⟨k1, k2, k3, k4, k5⟩ := h2 k hk
  obtain ⟨x1, x2⟩ := nxq_lt hq k1 hc
  obtain ⟨y1, y2⟩ := nxq_lt hp k2 hc
  have hpf := pst_fr M1 n (Int32.ofNat k) (Int32.ofNat c)
  refine ⟨⟨by omega, by rw [updN_ne _ _ (by omega)]; exact h1x, by rw [updN_ne _ _ (by omega)]; exact h1y, by rw [updN_ne _ _ (by omega)]; exact h1d, hn⟩, fun m hm => ?_, fun i j hij hj => ?_, ⟨?_, fun m hm => ?_⟩, fun m hm0 hmn => ?_, ⟨L, h, rs, hU.keep (hpf.ga (by decide)), fun v hv => ?_⟩, fun j d hj hd hjd => ?_, fun j hj => ?_, pst_6 _ _ _ _, (h10.tr (hf.mono (by decide) (by simp))).tr (hpf.mono (by decide) (by simp))⟩
  · by_cases e : m = n
    · rw [e, updN_eq, updN_eq, updN_eq]
      refine ⟨x1, y1, ?_, ?_, lw4_snoc k5 hc⟩
      · rw [x2, k3, run_app]
        rfl
      · rw [y2, k4, run_app]
        rfl
    · rw [updN_ne _ _ e, updN_ne _ _ e, updN_ne _ _ e]
      exact h2 m (by omega)
  · rw [updN_ne _ _ (show i ≠ n by omega)]
    by_cases e : j = n
    · rw [e, updN_eq]
      exact hb i (by omega)
    · rw [updN_ne _ _ e]
      exact h3 i j hij (by omega)
  · rw [pst_90, if_neg (by omega), hf.ga (by decide)]
    exact h4.1
  · rw [hpf.ga (by decide), hpf.ga (by decide), e88, e89]
    by_cases e : m = n
    · rw [if_pos e, if_pos e, e, updN_eq, updN_eq]
      exact ⟨rfl, rfl⟩
    · rw [if_neg e, if_neg e, updN_ne _ _ e, updN_ne _ _ e]
      exact h4.2 m (by omega)
  · rw [pst_90, pst_91]
    by_cases e : m = n
    · refine ⟨k, c, by omega, hc, by omega, ?_, by rw [if_pos e], by rw [if_pos e]⟩
      rw [e, updN_eq, updN_ne _ _ (by omega)]
    · obtain ⟨f, d, g1, g2, g3, g4, g5⟩ := h5 m hm0 (by omega)
      refine ⟨f, d, g1, g2, by omega, ?_, ?_⟩
      · rw [updN_ne _ _ e, updN_ne _ _ (by omega)]
        exact g4
      · rw [if_neg e, if_neg e, hf.ga (by decide), hf.ga (by decide)]
        exact g5
  · refine hP v (fun m hm => ?_) ?_
    · have := hv m (by omega)
      rw [updN_ne _ _ (by omega), updN_ne _ _ (by omega)] at this
      exact this
    · have := hv n (by omega)
      rw [updN_eq, updN_eq] at this
      exact this
  · intro z hz htl
    by_cases he : j = k ∧ d = c
    · rw [he.1, he.2, updN_ne _ _ (by omega)] at htl ⊢
      exact ⟨n, by omega, by rw [updN_eq]; exact htl, by rw [updN_eq]; exact sl_irr _⟩
    · have hjn : j ≠ n := by omega
      rw [updN_ne _ _ hjn] at htl ⊢
      obtain ⟨m, m1, m2, m3⟩ := h7 j d (by omega) hd (by omega) z hz htl
      exact ⟨m, by omega, by rw [updN_ne _ _ (by omega)]; exact m2, by rw [updN_ne _ _ (by omega)]; exact m3⟩
  · by_cases e : j = n
    · rw [e, updN_eq]
      exact hns
    · rw [updN_ne _ _ e]
      exact h8 j (by omega)
theorem c_isSplit {a b : Nat} {q p : List (List Nat)} {t u : List Nat} {M : MS} {x y n : Nat} {f d : Int32} (hX : MX a q M) (hY : MX b p M) (hq : Mch t q) (hp : Mch u p) (ha : a < 16) (hb : b < 16) (h6 : gI M 86 6 = Int32.ofNat n) (hn : n < 300) (e88 : gA M 88 n = Int32.ofNat x) (e89 : gA M 89 n = Int32.ofNat y) (hx : x < q.length) (hy : y < p.length) :
    m_Comparison_isSplit (27 + 3 * a) (27 + 3 * b) f d M = if NS (q.getD x []) = NS (p.getD y []) then some (pst M n f d, 0) else cal cM (pst M n f d) (m_Comparison_keepWordTo (Int32.ofNat n) (pst M n f d)) fun r => some (r.1, 1) := by
  obtain ⟨-, -, -, -, ⟨l87, l88, l89, l90, l91, l92⟩, -⟩ := hX.2.2
  have hpf := pst_fr M n f d
  have hX' := hX.fr ha hpf (by decide) (by decide)
  have hY' := hY.fr hb hpf (by decide) (by decide)
  unfold m_Comparison_isSplit
  rw [if_pos (x_mch ha).2.1, if_pos (x_mch hb).2.1, h6, st_of (by omega) (by omega), Option.bind_some, st_of (by show n < gL M 91; omega) (by omega), Option.bind_some, Option.bind_some]
  have e6 : gI (sA (sA M 90 n f) 91 n d) 86 6 = Int32.ofNat n := h6
  rw [e6, i_inc]
  show ((ldA (pst M n f d) 88 (Int32.ofNat n)).bind _) = _
  rw [ld_of (by rw [hpf.ln]; omega) (by omega), hpf.ga (by decide), e88, Option.bind_some]
  show cal cM (pst M n f d) (m_Machine_isAccepting (27 + 3 * a) (Int32.ofNat x) (pst M n f d)) _ = _
  rw [hX'.acc hq ha hx, cal_same]
  show ((ldA (pst M n f d) 89 (Int32.ofNat n)).bind _) = _
  rw [ld_of (by rw [hpf.ln]; omega) (by omega), hpf.ga (by decide), e89, Option.bind_some]
  show cal cM (pst M n f d) (m_Machine_isAccepting (27 + 3 * b) (Int32.ofNat y) (pst M n f d)) _ = _
  rw [hY'.acc hp hb hy, cal_same]
  by_cases e : NS (q.getD x []) = NS (p.getD y [])
  · rw [if_neg (fun h => h (by rw [e])), if_pos e]
  · rw [if_pos (fun h => e (b01_inj h)), if_neg e]
/-- how the search ends -/
def RCn : List Nat := [87, 88, 89, 90, 91, 92]
def CQ (t u : List Nat) (M0 : MS) (r : MS × Int32) : Prop := Fr RCn [(86, 6), (86, 7)] M0 r.1 ∧ ((r.2 = 0 ∧ Eqv t u ∧ gI r.1 86 7 = gI M0 86 7) ∨ (∃ w, r.2 = 1 ∧ LeastW t u w ∧ gI r.1 86 7 = Int32.ofNat w.length ∧ At r.1 92 0 w))
theorem c_differ59 {a b : Nat} {q p : List (List Nat)} {t u : List Nat} {M0 : MS} {k41 : Nat × Nat × Int32 × MS → Option (MS × Int32)} {k : Nat} (hX : MX a q M0) (hY : MX b p M0) (hq : Mch t q) (hp : Mch u p) (ha : a < 16) (hb : b < 16)
    (hK : ∀ n X Y D M, CB t u q p M0 n (k + 1) 0 X Y D M → k < n → Ok (k41 (27 + 3 * a, 27 + 3 * b, Int32.ofNat (k + 1), M)) (CQ t u M0)) (n : Nat) (X Y : Nat → Nat) (D : Nat → List Nat) (M : MS) (hB : CB t u q p M0 n k 0 X Y D M) (hk : k < n) :
    Ok (m_Comparison_differ_59 k41 (27 + 3 * a, 27 + 3 * b, Int32.ofNat k, 0, M)) (CQ t u M0) := by
  have ql := hq.2.1
  have pl := hp.2.1
  unfold m_Comparison_differ_59
  refine ok_fx (inv := fun z => ∃ n c X Y D M, z = (27 + 3 * a, 27 + 3 * b, Int32.ofNat k, Int32.ofNat c, M) ∧ CB t u q p M0 n k c X Y D M ∧ k < n ∧ c ≤ 4) (μ := fun z => 4 - z.2.2.2.1.toInt.toNat) ?_ _ ⟨n, 0, X, Y, D, M, rfl, hB, hk, by omega⟩ (by unfold FU; omega)
  intro k59 z hz ih
  obtain ⟨n, c, X, Y, D, M, rfl, hB, hk, hc⟩ := hz
  show Ok (m_Comparison_differ_59b k41 k59 (27 + 3 * a) (27 + 3 * b) (Int32.ofNat k) (Int32.ofNat c) M) _
  unfold m_Comparison_differ_59b
  by_cases h4 : c = 4
  · rw [if_pos (by rw [h4]; decide), i_inc]
    refine hK n X Y D M ?_ hk
    obtain ⟨h1, h2, h3, h4', h5, h6, h7, h8⟩ := hB
    refine ⟨h1, h2, h3, h4', fun m hm0 hmn => ?_, h6, fun j d hj hd hjd => h7 j d hj hd (by omega), h8⟩
    obtain ⟨f, d, g1, g2, g3, g4⟩ := h5 m hm0 hmn
    exact ⟨f, d, g1, g2, by omega, g4⟩
  · have hc4 : c < 4 := by omega
    have hfr := hB.2.2.2.2.2.2.2.2.2
    have hX1 := hX.fr ha hfr (by decide) (by decide)
    have hY1 := hY.fr hb hfr (by decide) (by decide)
    obtain ⟨-, -, -, -, ⟨l87, l88, l89, l90, l91, l92⟩, -⟩ := id hX1.2.2
    obtain ⟨k1, k2, k3, k4, k5⟩ := hB.2.1 k hk
    obtain ⟨x1, x2⟩ := nxq_lt hq k1 hc4
    obtain ⟨y1, y2⟩ := nxq_lt hp k2 hc4
    obtain ⟨e88, e89⟩ := hB.2.2.2.1.2 k hk
    obtain ⟨L, h, rs, u1, u2⟩ := hB.2.2.2.2.2.1
    have h6 := hB.2.2.2.2.2.2.2.2.1
    have hn := hB.1.2.2.2.2
    rw [if_neg (by rw [show (4 : Int32) = Int32.ofNat 4 from rfl, i_le_of (by omega) (by omega)]; omega), ld_of (by omega) (by omega), e88, Option.bind_some, hX1.next hq ha k1 hc4, cal_same]
    show Ok ((ldA M 89 (Int32.ofNat k)).bind _) _
    rw [ld_of (by omega) (by omega), e89, Option.bind_some]
    show Ok (cal cM M (m_Machine_next (27 + 3 * b) (Int32.ofNat (Y k)) (Int32.ofNat c) M) _) _
    rw [hY1.next hp hb k2 hc4, cal_same]
    show Ok (cal cM M (m_Machine_count (27 + 3 * a) M) _) _
    rw [hX1.count ha, cal_same]
    show Ok (cal cM M (m_Comparison_isNewPair (Int32.ofNat (nxq q (X k) c)) (Int32.ofNat (nxq p (Y k) c)) (Int32.ofNat q.length) M) _) _
    rcases c_newPair (P := PRv q n X Y) (by omega) x1 y1 u1 hn h6 ⟨l87, l88, l89⟩ u2 with ⟨M1, L1, d1, d2, d3, d4, d5⟩ | ⟨M1, L1, h1, rs1, d1, d2, d3, d4, d5, d6, d7⟩
    · rw [cal_some d1 d4.le.1 d4.le.2, if_pos rfl, i_inc]
      exact ih (27 + 3 * a, 27 + 3 * b, Int32.ofNat k, Int32.ofNat (c + 1), M1) ⟨n, c + 1, X, Y, D, M1, rfl, hB.met hq hp hk hc4 d4 d2 d3 d5, hk, by omega⟩ (by show 4 - (Int32.ofNat (c + 1)).toInt.toNat < 4 - (Int32.ofNat c).toInt.toNat; rw [i_of (by omega), i_of (by omega)]; omega)
    · rw [cal_some d1 d4.le.1 d4.le.2, if_neg (by show ¬ (1 : Int32) = 0; decide)]
      have hX2 := hX1.fr ha d4 (by decide) (by simp)
      have hY2 := hY1.fr hb d4 (by decide) (by simp)
      have h62 : gI M1 86 6 = Int32.ofNat n := by rw [d4.gi (by simp)]; exact h6
      have hsp := c_isSplit (f := Int32.ofNat k) (d := Int32.ofNat c) hX2 hY2 hq hp ha hb h62 hn (by rw [d5, if_pos rfl]) (by rw [d6, if_pos rfl]) x1 y1
      have hpf := pst_fr M1 n (Int32.ofNat k) (Int32.ofNat c)
      have er : NS (q.getD (nxq q (X k) c) []) = NS (run t (D k ++ [c])) := by rw [x2, k3, run_app]; rfl
      have er' : NS (p.getD (nxq p (Y k) c) []) = NS (run u (D k ++ [c])) := by rw [y2, k4, run_app]; rfl
      rw [er, er'] at hsp
      by_cases hns : NS (run t (D k ++ [c])) = NS (run u (D k ++ [c]))
      · rw [if_pos hns] at hsp
        rw [cal_some hsp hpf.le.1 hpf.le.2, if_pos rfl, i_inc]
        exact ih (27 + 3 * a, 27 + 3 * b, Int32.ofNat k, Int32.ofNat (c + 1), _) ⟨n + 1, c + 1, _, _, _, _, rfl, hB.push hq hp hk hc4 d4 d2 d3 d5 d6 d7 hns, by omega, by omega⟩ (by show 4 - (Int32.ofNat (c + 1)).toInt.toNat < 4 - (Int32.ofNat c).toInt.toNat; rw [i_of (by omega), i_of (by omega)]; omega)
      · rw [if_neg hns] at hsp
        have hF : FMc (pst M1 n (Int32.ofNat k) (Int32.ofNat c)) (updN D n (D k ++ [c])) (n + 1) := by
          obtain ⟨⟨b1, -, -, b4, -⟩, -, -, b5, b6, -⟩ := hB
          refine ⟨by rw [updN_ne _ _ (by omega)]; exact b4, by rw [pst_90, if_neg (by omega), d4.ga (by decide)]; exact b5.1, fun m hm0 hmn => ?_⟩
          rw [pst_90, pst_91]
          by_cases e : m = n
          · refine ⟨k, c, by omega, hc4, ?_, by rw [if_pos e], by rw [if_pos e]⟩
            rw [e, updN_eq, updN_ne _ _ (by omega)]
          · obtain ⟨f, d, g1, g2, g3, g4, g5⟩ := b6 m hm0 (by omega)
            refine ⟨f, d, g1, g2, ?_, ?_⟩
            · rw [updN_ne _ _ e, updN_ne _ _ (by omega)]
              exact g4
            · rw [if_neg e, if_neg e, d4.ga (by decide), d4.ga (by decide)]
              exact g5
        have hl3 : gL (pst M1 n (Int32.ofNat k) (Int32.ofNat c)) = gL M := hpf.ln.trans d4.ln
        obtain ⟨M4, w1, w2, w3, w4⟩ := c_keepWordTo (k := n) (by rw [hl3]; exact l90) (by rw [hl3]; exact l91) (by rw [hl3]; exact l92) (by omega) hF (by omega)
        rw [updN_eq] at w2 w3
        rw [cal_some w1 w4.le.1 w4.le.2] at hsp
        have hfA : Fr RCn [(86, 6), (86, 7)] M1 M4 := (hpf.mono (by decide) (by decide)).tr (w4.mono (by decide) (by decide))
        rw [cal_some hsp hfA.le.1 hfA.le.2, if_neg (by show ¬ (1 : Int32) = 0; decide)]
        exact ok_some ⟨((hfr.mono (by decide) (by decide)).tr (d4.mono (by decide) (by simp))).tr hfA, Or.inr ⟨_, rfl, hB.least hk hc4 hns, w2, w3⟩⟩
theorem c_differ41 {a b : Nat} {q p : List (List Nat)} {t u : List Nat} {M0 : MS} (hX : MX a q M0) (hY : MX b p M0) (hq : Mch t q) (hp : Mch u p) (ha : a < 16) (hb : b < 16) (n : Nat) (X Y : Nat → Nat) (D : Nat → List Nat) (M : MS) (hB : CB t u q p M0 n 0 0 X Y D M) :
    Ok (m_Comparison_differ_41 (27 + 3 * a, 27 + 3 * b, 0, M)) (CQ t u M0) := by
  unfold m_Comparison_differ_41
  refine ok_fx (inv := fun z => ∃ n k X Y D M, z = (27 + 3 * a, 27 + 3 * b, Int32.ofNat k, M) ∧ CB t u q p M0 n k 0 X Y D M ∧ k ≤ n) (μ := fun z => 301 - z.2.2.1.toInt.toNat) ?_ _ ⟨n, 0, X, Y, D, M, rfl, hB, by omega⟩ (by unfold FU; omega)
  intro k41 z hz ih
  obtain ⟨n, k, X, Y, D, M, rfl, hB, hk⟩ := hz
  have h6 := hB.2.2.2.2.2.2.2.2.1
  have hn := hB.1.2.2.2.2
  have hfr := hB.2.2.2.2.2.2.2.2.2
  show Ok (m_Comparison_differ_41b k41 (27 + 3 * a) (27 + 3 * b) (Int32.ofNat k) M) _
  unfold m_Comparison_differ_41b
  rw [h6]
  by_cases h : k = n
  · rw [if_pos (by rw [h]; exact Int32.le_refl _)]
    exact ok_some ⟨hfr.mono (by decide) (by decide), Or.inl ⟨rfl, hB.eqv (by omega), hfr.gi (by decide)⟩⟩
  · rw [if_neg (by rw [i_le_of (by omega) (by omega)]; omega), if_neg (by rw [show (300 : Int32) = Int32.ofNat 300 from rfl, i_le_of (by omega) (by omega)]; omega)]
    refine c_differ59 hX hY hq hp ha hb (fun n2 X2 Y2 D2 M2 hB2 hk2 => ?_) n X Y D M hB (by omega)
    exact ih (27 + 3 * a, 27 + 3 * b, Int32.ofNat (k + 1), M2) ⟨n2, k + 1, X2, Y2, D2, M2, rfl, hB2, by omega⟩ (by show 301 - (Int32.ofNat (k + 1)).toInt.toNat < 301 - (Int32.ofNat k).toInt.toNat; rw [i_of (by omega), i_of (by omega)]; omega)
