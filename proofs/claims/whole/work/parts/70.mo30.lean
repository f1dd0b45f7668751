/-! STEP 2: the reference's search for the least word -/
def XO (M : MS) (q : List (List Nat)) : Prop := ∀ i, i < q.length → gA M 115 i = b01 (NS (q.getD i [])) ∧ ∀ c, c < 4 → gA M 111 (4 * i + c) = Int32.ofNat (nxq q i c)
theorem XO.fr {M M1 : MS} {q : List (List Nat)} {R : List Nat} {F : List (Nat × Nat)} (h : XO M q) (hf : Fr R F M M1) (h1 : 111 ∉ R) (h2 : 115 ∉ R) : XO M1 q := fun i hi => by
  obtain ⟨g1, g2⟩ := h i hi
  exact ⟨by rw [hf.ga h2]; exact g1, fun c hc => by rw [hf.ga h1]; exact g2 c hc⟩
/-- the pairs found so far (their states X, Y, the word D that leads there), those before k done, of k the letters below c -/
def BI (t u : List Nat) (q p : List (List Nat)) (M0 : MS) (n k c ks : Nat) (X Y : Nat → Nat) (D : Nat → List Nat) (M : MS) : Prop :=
  (0 < n ∧ X 0 = 0 ∧ Y 0 = 0 ∧ D 0 = []) ∧
  (∀ m, m < n → X m < q.length ∧ Y m < p.length ∧ q.getD (X m) [] = run t (D m) ∧ p.getD (Y m) [] = run u (D m) ∧ lw4 (D m)) ∧
  (∀ i j, i < n → j < n → X i = X j → Y i = Y j → i = j) ∧
  (∀ i j, i < j → j < n → sl (D i) (D j)) ∧
  (gA M 118 0 = -1 ∧ ∀ m, m < n → gA M 117 m = Int32.ofNat (150 * X m + Y m)) ∧
  (∀ m, 0 < m → m < n → ∃ f d, f < m ∧ d < 4 ∧ (f < k ∨ (f = k ∧ d < c)) ∧ D m = D f ++ [d] ∧ gA M 118 m = Int32.ofNat (4 * f + d)) ∧
  (∀ x y, x < 150 → y < 150 → ∃ b, gA M 120 (150 * x + y) = b01 b ∧ (b = true ↔ ∃ m, m < n ∧ X m = x ∧ Y m = y)) ∧
  (∀ j d, j < n → d < 4 → (j < k ∨ (j = k ∧ d < c)) → ∃ m, m < n ∧ X m = nxq q (X j) d ∧ Y m = nxq p (Y j) d ∧ ¬ sl (D j ++ [d]) (D m)) ∧
  (∀ j, j < n → j < ks → NS (run t (D j)) = NS (run u (D j))) ∧ Fr [117, 118, 120] [] M0 M
theorem BI.le {t u : List Nat} {q p : List (List Nat)} {M0 M : MS} {n k c ks : Nat} {X Y : Nat → Nat} {D : Nat → List Nat} (h : BI t u q p M0 n k c ks X Y D M) (hq : q.length ≤ 150) (hp : p.length ≤ 150) : n ≤ 22500 := by
  refine php (f := fun m => 150 * X m + Y m) (fun i hi => ?_) (fun i j hi hj e => ?_)
  · have := h.2.1 i hi
    show 150 * X i + Y i < 22500
    omega
  · have h1 := h.2.1 i hi
    have h2 := h.2.1 j hj
    have e : 150 * X i + Y i = 150 * X j + Y j := e
    exact h.2.2.1 i j hi hj (by omega) (by omega)
theorem BI.before {t u : List Nat} {q p : List (List Nat)} {M0 M : MS} {n k c ks : Nat} {X Y : Nat → Nat} {D : Nat → List Nat} (h : BI t u q p M0 n k c ks X Y D M) (hk : k < n) : ∀ i, i < n → sl (D i) (D k ++ [c]) := by
  intro i hi
  obtain ⟨⟨-, -, -, h0⟩, -, -, hs, -, ho, -⟩ := h
  by_cases hi0 : i = 0
  · rw [hi0, h0]
    left
    rw [List.length_append, List.length_singleton, List.length_nil]
    omega
  · obtain ⟨f, d, h1, h2, h3, h4, -⟩ := ho i (by omega) hi
    rw [h4]
    rcases h3 with h3 | ⟨h3, h5⟩
    · exact sl_snoc (hs f k h3 hk) h2
    · rw [h3]
      exact sl_let h5
theorem BI.met {t u : List Nat} {q p : List (List Nat)} {M0 M : MS} {n k c ks : Nat} {X Y : Nat → Nat} {D : Nat → List Nat} (h : BI t u q p M0 n k c ks X Y D M) (hk : k < n) (hm : ∃ m, m < n ∧ X m = nxq q (X k) c ∧ Y m = nxq p (Y k) c) : BI t u q p M0 n k (c + 1) ks X Y D M := by
  have hb := h.before hk
  obtain ⟨h1, h2, h3, h4, h5, h6, h7, h8, h9, h10⟩ := h
  refine ⟨h1, h2, h3, h4, h5, fun m hm0 hmn => ?_, h7, fun j d hj hd hjd => ?_, h9, h10⟩
  · obtain ⟨f, d, g1, g2, g3, g4, g5⟩ := h6 m hm0 hmn
    exact ⟨f, d, g1, g2, by omega, g4, g5⟩
  · by_cases he : j = k ∧ d = c
    · obtain ⟨m, m1, m2, m3⟩ := hm
      rw [he.1, he.2]
      exact ⟨m, m1, m2, m3, sl_asy (hb m m1)⟩
    · exact h8 j d hj hd (by omega)
theorem BI.push {t u : List Nat} {q p : List (List Nat)} {M0 M : MS} {n k c ks : Nat} {X Y : Nat → Nat} {D : Nat → List Nat} (hq : Mch t q) (hp : Mch u p) (h : BI t u q p M0 n k c ks X Y D M) (hk : k < n) (hc : c < 4) (hks : ks ≤ n) (hm : ¬ ∃ m, m < n ∧ X m = nxq q (X k) c ∧ Y m = nxq p (Y k) c) :
    BI t u q p M0 (n + 1) k (c + 1) ks (fun m => if m = n then nxq q (X k) c else X m) (fun m => if m = n then nxq p (Y k) c else Y m) (fun m => if m = n then D k ++ [c] else D m) (sA (sA (sA M 120 (150 * nxq q (X k) c + nxq p (Y k) c) 1) 117 n (Int32.ofNat (150 * nxq q (X k) c + nxq p (Y k) c))) 118 n (Int32.ofNat (4 * k + c))) := by
  have hb := h.before hk
  obtain ⟨⟨h1, h1x, h1y, h1d⟩, h2, h3, h4, h5, h6, h7, h8, h9, h10⟩ := h
  obtain ⟨k1, k2, k3, k4, k5⟩ := h2 k hk
  obtain ⟨x1, x2⟩ := hq.nx k1 hc
  obtain ⟨y1, y2⟩ := hp.nx k2 hc
  have ql := hq.2.1
  have pl := hp.2.1
  have x1' : nxq q (X k) c < 150 := by unfold nxq; omega
  have y1' : nxq p (Y k) c < 150 := by unfold nxq; omega
  refine ⟨⟨by omega, by show (if 0 = n then _ else X 0) = 0; rw [if_neg (by omega)]; exact h1x, by show (if 0 = n then _ else Y 0) = 0; rw [if_neg (by omega)]; exact h1y, by show (if 0 = n then _ else D 0) = []; rw [if_neg (by omega)]; exact h1d⟩, fun m hmn => ?_, fun i j hi hj ex ey => ?_, fun i j hij hj => ?_, ⟨?_, fun m hmn => ?_⟩, fun m hm0 hmn => ?_, fun x y hx hy => ?_, fun j d hj hd hjd => ?_, fun j hj hjk => ?_, ?_⟩
  · by_cases he : m = n
    · simp only [he, if_true]
      refine ⟨x1, y1, ?_, ?_, lw4_snoc k5 hc⟩
      · show q.getD (ix (DS c (q.getD (X k) [])) q) [] = _
        rw [x2, k3, run_app]
        rfl
      · show p.getD (ix (DS c (p.getD (Y k) [])) p) [] = _
        rw [y2, k4, run_app]
        rfl
    · simp only [he, if_false]
      exact h2 m (by omega)
  · have ex : (if i = n then nxq q (X k) c else X i) = if j = n then nxq q (X k) c else X j := ex
    have ey : (if i = n then nxq p (Y k) c else Y i) = if j = n then nxq p (Y k) c else Y j := ey
    by_cases hin : i = n
    · rw [if_pos hin] at ex ey
      by_cases hjn : j = n
      · omega
      · rw [if_neg hjn] at ex ey
        exact absurd ⟨j, by omega, ex.symm, ey.symm⟩ hm
    · rw [if_neg hin] at ex ey
      by_cases hjn : j = n
      · rw [if_pos hjn] at ex ey
        exact absurd ⟨i, by omega, ex, ey⟩ hm
      · rw [if_neg hjn] at ex ey
        exact h3 i j (by omega) (by omega) ex ey
  · show sl (if i = n then D k ++ [c] else D i) (if j = n then D k ++ [c] else D j)
    rw [if_neg (show ¬ i = n by omega)]
    by_cases hjn : j = n
    · rw [if_pos hjn]
      exact hb i (by omega)
    · rw [if_neg hjn]
      exact h4 i j hij (by omega)
  · rw [gA_sA, if_neg (by omega), gA_sA, if_neg (by omega), gA_sA, if_neg (by omega)]
    exact h5.1
  · by_cases he : m = n
    · simp only [he, if_true]
      rw [gA_sA, if_neg (by omega), gA_sA, if_pos ⟨rfl, rfl⟩]
    · simp only [he, if_false]
      rw [gA_sA, if_neg (by omega), gA_sA, if_neg (by omega), gA_sA, if_neg (by omega)]
      exact h5.2 m (by omega)
  · by_cases he : m = n
    · refine ⟨k, c, by omega, hc, by omega, ?_, ?_⟩
      · show (if m = n then D k ++ [c] else D m) = (if k = n then D k ++ [c] else D k) ++ [c]
        rw [if_pos he, if_neg (by omega)]
      · rw [he, gA_sA, if_pos ⟨rfl, rfl⟩]
    · obtain ⟨f, d, g1, g2, g3, g4, g5⟩ := h6 m hm0 (by omega)
      refine ⟨f, d, g1, g2, by omega, ?_, ?_⟩
      · show (if m = n then D k ++ [c] else D m) = (if f = n then D k ++ [c] else D f) ++ [d]
        rw [if_neg he, if_neg (by omega)]
        exact g4
      · rw [gA_sA, if_neg (by omega), gA_sA, if_neg (by omega), gA_sA, if_neg (by omega)]
        exact g5
  · rw [gA_sA, if_neg (by omega), gA_sA, if_neg (by omega), gA_sA]
    by_cases he : x = nxq q (X k) c ∧ y = nxq p (Y k) c
    · rw [if_pos ⟨rfl, by rw [he.1, he.2]⟩]
      exact ⟨true, rfl, fun _ => ⟨n, by omega, by show (if n = n then _ else X n) = x; rw [if_pos rfl]; exact he.1.symm, by show (if n = n then _ else Y n) = y; rw [if_pos rfl]; exact he.2.symm⟩, fun _ => rfl⟩
    · rw [if_neg (by omega)]
      obtain ⟨b, b1, b2⟩ := h7 x y hx hy
      refine ⟨b, b1, b2.trans ⟨fun ⟨m, m1, m2, m3⟩ => ⟨m, by omega, ?_, ?_⟩, fun ⟨m, m1, m2, m3⟩ => ?_⟩⟩
      · show (if m = n then _ else X m) = x
        rw [if_neg (by omega)]; exact m2
      · show (if m = n then _ else Y m) = y
        rw [if_neg (by omega)]; exact m3
      · have m2 : (if m = n then nxq q (X k) c else X m) = x := m2
        have m3 : (if m = n then nxq p (Y k) c else Y m) = y := m3
        by_cases hmn : m = n
        · rw [if_pos hmn] at m2 m3
          exact absurd ⟨m2.symm, m3.symm⟩ he
        · rw [if_neg hmn] at m2 m3
          exact ⟨m, by omega, m2, m3⟩
  · have hjn : ¬ j = n := by omega
    show ∃ m, m < n + 1 ∧ (if m = n then nxq q (X k) c else X m) = nxq q (if j = n then nxq q (X k) c else X j) d ∧ (if m = n then nxq p (Y k) c else Y m) = nxq p (if j = n then nxq p (Y k) c else Y j) d ∧ ¬ sl ((if j = n then D k ++ [c] else D j) ++ [d]) (if m = n then D k ++ [c] else D m)
    rw [if_neg hjn, if_neg hjn, if_neg hjn]
    by_cases he : j = k ∧ d = c
    · refine ⟨n, by omega, ?_⟩
      rw [if_pos rfl, if_pos rfl, if_pos rfl, he.1, he.2]
      exact ⟨rfl, rfl, sl_irr _⟩
    · obtain ⟨m, m1, m2, m3, m4⟩ := h8 j d (by omega) hd (by omega)
      refine ⟨m, by omega, ?_⟩
      rw [if_neg (by omega), if_neg (by omega), if_neg (by omega)]
      exact ⟨m2, m3, m4⟩
  · show NS (run t (if j = n then D k ++ [c] else D j)) = NS (run u (if j = n then D k ++ [c] else D j))
    rw [if_neg (by omega)]
    exact h9 j (by omega) hjk
  · exact ((h10.tr (Fr.stA (by decide))).tr (Fr.stA (by decide))).tr (Fr.stA (by decide))
/-- every word is covered by a pair, and where it comes before k's word, by an earlier pair -/
theorem BI.cover {t u : List Nat} {q p : List (List Nat)} {M0 M : MS} {n k ks : Nat} {X Y : Nat → Nat} {D : Nat → List Nat} (hq : Mch t q) (hp : Mch u p) (h : BI t u q p M0 n k 0 ks X Y D M) (hk : k ≤ n) : ∀ (l : Nat) (v : List Nat), v.length = l → lw4 v → (k < n → sl v (D k)) → ∃ j, j < n ∧ j < k ∧ q.getD (X j) [] = run t v ∧ p.getD (Y j) [] = run u v ∧ ¬ sl v (D j) := by
  obtain ⟨⟨h1, h1x, h1y, h1d⟩, h2, h3, h4, h5, h6, h7, h8, h9, h10⟩ := h
  intro l
  induction l with
  | zero =>
    intro v hv _ hs
    rw [List.length_eq_zero_iff.mp hv] at hs ⊢
    have hk0 : 0 < k := by
      refine Nat.pos_of_ne_zero (fun e => ?_)
      have := hs (by omega)
      rw [e, h1d] at this
      exact sl_irr _ this
    obtain ⟨-, -, a3, a4, -⟩ := h2 0 h1
    rw [h1d] at a3 a4
    exact ⟨0, h1, hk0, a3, a4, by rw [h1d]; exact sl_irr _⟩
  | succ l ih =>
    intro v hv hw hs
    rcases List.eq_nil_or_concat v with rfl | ⟨v', c, rfl⟩
    · simp at hv
    rw [List.concat_eq_append] at *
    rw [List.length_append, List.length_singleton] at hv
    obtain ⟨hw1, hc⟩ := lw4_of hw
    obtain ⟨j, j1, j2, j3, j4, j5⟩ := ih v' (by omega) hw1 (fun hkn => sl_tr (sl_long v' c) (hs hkn))
    obtain ⟨a1, a2, -, -, -⟩ := h2 j j1
    obtain ⟨m, m1, m2, m3, m4⟩ := h8 j c j1 hc (Or.inl j2)
    obtain ⟨x1, x2⟩ := hq.nx a1 hc
    obtain ⟨y1, y2⟩ := hp.nx a2 hc
    have hnv : ¬ sl (v' ++ [c]) (D m) := sl_nntr m4 (sl_n_snoc j5)
    have hmk : m < k := by
      by_cases hkn : k < n
      · have h12 := sl_ntr hnv (hs hkn)
        refine Classical.byContradiction (fun hno => ?_)
        by_cases he : m = k
        · rw [he] at h12; exact sl_irr _ h12
        · exact sl_asy h12 (h4 k m (by omega) m1)
      · omega
    refine ⟨m, m1, hmk, ?_, ?_, hnv⟩
    · rw [m2, run_app]
      show q.getD (ix (DS c (q.getD (X j) [])) q) [] = _
      rw [x2, j3]
      rfl
    · rw [m3, run_app]
      show p.getD (ix (DS c (p.getD (Y j) [])) p) [] = _
      rw [y2, j4]
      rfl
theorem BI.least {t u : List Nat} {q p : List (List Nat)} {M0 M : MS} {n k : Nat} {X Y : Nat → Nat} {D : Nat → List Nat} (hq : Mch t q) (hp : Mch u p) (h : BI t u q p M0 n k 0 k X Y D M) (hk : k < n) (hd : NS (run t (D k)) ≠ NS (run u (D k))) : LeastW t u (D k) := by
  refine ⟨(h.2.1 k hk).2.2.2.2, hd, fun v hv ht hs => ?_⟩
  obtain ⟨j, j1, j2, j3, j4, -⟩ := h.cover hq hp (by omega) v.length v rfl hv (fun _ => hs)
  have h9 := h.2.2.2.2.2.2.2.2.1 j j1 j2
  obtain ⟨-, -, a3, a4, -⟩ := h.2.1 j j1
  rw [← a3, ← a4, j3, j4] at h9
  exact ht h9
theorem BI.eqv {t u : List Nat} {q p : List (List Nat)} {M0 M : MS} {n : Nat} {X Y : Nat → Nat} {D : Nat → List Nat} (hq : Mch t q) (hp : Mch u p) (h : BI t u q p M0 n n 0 n X Y D M) : Eqv t u := fun v hv => by
  obtain ⟨j, j1, j2, j3, j4, -⟩ := h.cover hq hp (Nat.le_refl _) v.length v rfl hv (fun hn => by omega)
  have h9 := h.2.2.2.2.2.2.2.2.1 j j1 j2
  obtain ⟨-, -, a3, a4, -⟩ := h.2.1 j j1
  rw [← a3, ← a4, j3, j4] at h9
  exact h9
/-- how the search ends -/
def SQ (t u : List Nat) (M0 : MS) (r : MS × Int32) : Prop := (r.2 = 1 ∧ Eqv t u ∧ Fr [117, 118, 119, 120] [(97, 27)] M0 r.1 ∧ gI r.1 97 27 = gI M0 97 27) ∨ (∃ w, r.2 = 0 ∧ LeastW t u w ∧ gI r.1 97 27 = Int32.ofNat w.length ∧ At r.1 119 0 w ∧ Fr [117, 118, 119, 120] [(97, 27)] M0 r.1)
theorem i_div150 {a : Nat} (ha : a < 2147483648) : Int32.ofNat a / (150 : Int32) = Int32.ofNat (a / 150) := i_div_of (b := 150) ha (by omega)
theorem i_rem150 {a : Nat} (ha : a < 2147483648) : Int32.ofNat a - Int32.ofNat a / (150 : Int32) * (150 : Int32) = Int32.ofNat (a % 150) := i_rem_of (b := 150) ha (by omega) (by omega)
theorem i_150 (a : Nat) : (150 : Int32) * Int32.ofNat a = Int32.ofNat (150 * a) := i_mul_of 150 a
theorem i_4x (a : Nat) : (4 : Int32) * Int32.ofNat a = Int32.ofNat (4 * a) := i_mul_of 4 a
/-- the body of the search, where the pair k's two don't differ -/
theorem r_eq158s {M : MS} {k158 : Int32 × Int32 × MS → Option (MS × Int32)} {n k x y : Nat} {a b : Bool} (h17 : gL M 117 = 22500) (h15 : gL M 115 = 150) (h14 : gL M 114 = 150) (hn : n ≤ 22500) (hk : k < n) (hx : x < 150) (hy : y < 150) (e17 : gA M 117 k = Int32.ofNat (150 * x + y)) (ea : gA M 115 x = b01 a) (eb : gA M 114 y = b01 b) :
    m_Mo_equal_158b k158 (Int32.ofNat n) (Int32.ofNat k) M = if a = b then m_Mo_equal_218 k158 (Int32.ofNat n, Int32.ofNat k, Int32.ofNat x, Int32.ofNat y, 0, M) else m_Mo_equal_207 (Int32.ofNat k) M := by
  unfold m_Mo_equal_158b
  rw [if_neg (by rw [i_le_of (by omega) (by omega)]; omega), ld_of (by omega) (by omega), e17, Option.bind_some, Option.bind_some, i_rem150 (by omega), i_div150 (by omega), show (150 * x + y) / 150 = x by omega, show (150 * x + y) % 150 = y by omega, ld_of (by omega) (by omega), ea, Option.bind_some, ld_of (by omega) (by omega), eb, Option.bind_some]
  cases a <;> cases b <;> simp [b01]
theorem r_eq218s {M : MS} {k158 : Int32 × Int32 × MS → Option (MS × Int32)} {k218 : Int32 × Int32 × Int32 × Int32 × Int32 × MS → Option (MS × Int32)} {n k x y c x' y' : Nat} {b : Bool} (h11 : gL M 111 = 600) (h10 : gL M 110 = 600) (h20 : gL M 120 = 22500) (h17 : gL M 117 = 22500) (h18 : gL M 118 = 22500) (hn : b = false → n < 22500) (hn2 : n ≤ 22500) (hk : k < n) (hx : x < 150) (hy : y < 150) (hc : c < 4) (hx' : x' < 150) (hy' : y' < 150) (e11 : gA M 111 (4 * x + c) = Int32.ofNat x') (e10 : gA M 110 (4 * y + c) = Int32.ofNat y') (e20 : gA M 120 (150 * x' + y') = b01 b) :
    m_Mo_equal_218b k158 k218 (Int32.ofNat n) (Int32.ofNat k) (Int32.ofNat x) (Int32.ofNat y) (Int32.ofNat c) M = if b = false then k218 (Int32.ofNat (n + 1), Int32.ofNat k, Int32.ofNat x, Int32.ofNat y, Int32.ofNat (c + 1), sA (sA (sA M 120 (150 * x' + y') 1) 117 n (Int32.ofNat (150 * x' + y'))) 118 n (Int32.ofNat (4 * k + c))) else k218 (Int32.ofNat n, Int32.ofNat k, Int32.ofNat x, Int32.ofNat y, Int32.ofNat (c + 1), M) := by
  unfold m_Mo_equal_218b
  rw [if_neg (by rw [show (4 : Int32) = Int32.ofNat 4 from rfl, i_le_of (by omega) (by omega)]; omega), i_4x, i_add_of, ld_of (by omega) (by omega), e11, Option.bind_some, i_4x, i_add_of, ld_of (by omega) (by omega), e10, Option.bind_some, i_150, i_add_of, ld_of (by omega) (by omega), e20, Option.bind_some, i_inc]
  cases b with
  | false =>
    have hn := hn rfl
    rw [if_pos (by decide), if_pos rfl, st_ofZ (by omega) (by omega), Option.bind_some, st_of (by rw [gL_sA]; omega) (by omega), Option.bind_some, i_4x, i_add_of, st_of (by rw [gL_sA, gL_sA]; omega) (by omega), Option.bind_some, i_inc]
    rfl
  | true =>
    rw [if_neg (by decide), if_neg (by decide), i_inc]
theorem r_eq158 {t u : List Nat} {q p : List (List Nat)} {M0 : MS} (hq : Mch t q) (hp : Mch u p) (hX : XM M0 p) (hO : XO M0 q) (hL : RLx (gL M0)) (M : MS) (hB : BI t u q p M0 1 0 0 0 (fun _ => 0) (fun _ => 0) (fun _ => []) M) : Ok (m_Mo_equal_158 (1, 0, M)) (SQ t u M0) := by
  have ql := hq.2.1
  have pl := hp.2.1
  obtain ⟨hRL, -, ⟨-, -, l10, l11, -, -, l14, l15⟩, ⟨-, l17, l18, l19, l20, -⟩⟩ := hL
  unfold m_Mo_equal_158
  refine ok_fx (inv := fun z => ∃ (n k : Nat) (X Y : Nat → Nat) (D : Nat → List Nat) (M : MS), z = (Int32.ofNat n, Int32.ofNat k, M) ∧ k ≤ n ∧ BI t u q p M0 n k 0 k X Y D M) (μ := fun z => 22501 - z.2.1.toInt.toNat) ?_ _ ⟨1, 0, _, _, _, M, rfl, by omega, hB⟩ (by unfold FU; omega)
  intro k158 z hz ih
  obtain ⟨n, k, X, Y, D, M, rfl, hk, hB⟩ := hz
  have hn := hB.le ql pl
  have hfr := hB.2.2.2.2.2.2.2.2.2
  have hln := hfr.ln
  show Ok (m_Mo_equal_158b k158 (Int32.ofNat n) (Int32.ofNat k) M) _
  by_cases hkn : k = n
  · subst hkn
    unfold m_Mo_equal_158b
    rw [if_pos (Int32.le_refl _)]
    exact ok_some (Or.inl ⟨rfl, hB.eqv hq hp, hfr.mono (by decide) (by decide), hfr.gi (by decide)⟩)
  · have hkl : k < n := by omega
    obtain ⟨a1, a2, a3, a4, a5⟩ := hB.2.1 k hkl
    have hOM := hO.fr hfr (by decide) (by decide)
    have hXM := hX.fr hfr (by decide) (by decide)
    rw [r_eq158s (x := X k) (y := Y k) (by rw [hln]; exact l17) (by rw [hln]; exact l15) (by rw [hln]; exact l14) hn hkl (by omega) (by omega) (hB.2.2.2.2.1.2 k hkl) (hOM _ a1).1 (hXM _ a2).1, a3, a4]
    by_cases he : NS (run t (D k)) = NS (run u (D k))
    · rw [if_pos he]
      unfold m_Mo_equal_218
      have hB1 : BI t u q p M0 n k 0 (k + 1) X Y D M := by
        obtain ⟨h1, h2, h3, h4, h5, h6, h7, h8, h9, h10⟩ := hB
        refine ⟨h1, h2, h3, h4, h5, h6, h7, h8, fun j hj hjk => ?_, h10⟩
        by_cases hjk2 : j = k
        · rw [hjk2]; exact he
        · exact h9 j hj (by omega)
      have hx0 : X k = X k := rfl
      refine ok_fx (inv := fun z => ∃ (n c : Nat) (X' Y' : Nat → Nat) (D : Nat → List Nat) (M : MS), z = (Int32.ofNat n, Int32.ofNat k, Int32.ofNat (X k), Int32.ofNat (Y k), Int32.ofNat c, M) ∧ k < n ∧ c ≤ 4 ∧ X' k = X k ∧ Y' k = Y k ∧ BI t u q p M0 n k c (k + 1) X' Y' D M) (μ := fun z => 4 - z.2.2.2.2.1.toInt.toNat) ?_ _ ⟨n, 0, X, Y, D, M, rfl, hkl, by omega, rfl, rfl, hB1⟩ (by unfold FU; omega)
      intro k218 z hz ih2
      obtain ⟨n, c, X', Y', D, M, rfl, hkl, hc, hXk, hYk, hB⟩ := hz
      have hn := hB.le ql pl
      have hfr := hB.2.2.2.2.2.2.2.2.2
      have hln := hfr.ln
      show Ok (m_Mo_equal_218b k158 k218 (Int32.ofNat n) (Int32.ofNat k) (Int32.ofNat (X k)) (Int32.ofNat (Y k)) (Int32.ofNat c) M) _
      by_cases hc4 : c = 4
      · subst hc4
        unfold m_Mo_equal_218b
        rw [if_pos (by decide), i_inc]
        refine ih (Int32.ofNat n, Int32.ofNat (k + 1), M) ⟨n, k + 1, X', Y', D, M, rfl, by omega, ?_⟩ (by show 22501 - (Int32.ofNat (k + 1)).toInt.toNat < 22501 - (Int32.ofNat k).toInt.toNat; rw [i_of (by omega), i_of (by omega)]; omega)
        obtain ⟨h1, h2, h3, h4, h5, h6, h7, h8, h9, h10⟩ := hB
        refine ⟨h1, h2, h3, h4, h5, fun m hm0 hmn => ?_, h7, fun j d hj hd hjd => h8 j d hj hd (by omega), h9, h10⟩
        obtain ⟨f, d, g1, g2, g3, g4, g5⟩ := h6 m hm0 hmn
        exact ⟨f, d, g1, g2, by omega, g4, g5⟩
      · have hc' : c < 4 := by omega
        have hOM := hO.fr hfr (by decide) (by decide)
        have hXM := hX.fr hfr (by decide) (by decide)
        obtain ⟨x1, x2⟩ := hq.nx a1 hc'
        obtain ⟨y1, y2⟩ := hp.nx a2 hc'
        have x1' : nxq q (X k) c < 150 := by unfold nxq; omega
        have y1' : nxq p (Y k) c < 150 := by unfold nxq; omega
        obtain ⟨b, b1, b2⟩ := hB.2.2.2.2.2.2.1 _ _ x1' y1'
        have hmet : b = false → ¬ ∃ m, m < n ∧ X' m = nxq q (X' k) c ∧ Y' m = nxq p (Y' k) c := fun hb hex => by
          rw [hXk, hYk] at hex
          have := b2.mpr hex
          rw [hb] at this
          cases this
        have hpush : b = false → _ := fun hb => BI.push hq hp hB hkl hc' (by omega) (hmet hb)
        have hnlt : b = false → n < 22500 := fun hb => by
          have := (hpush hb).le ql pl
          omega
        rw [r_eq218s (x' := nxq q (X k) c) (y' := nxq p (Y k) c) (b := b) (by rw [hln]; exact l11) (by rw [hln]; exact l10) (by rw [hln]; exact l20) (by rw [hln]; exact l17) (by rw [hln]; exact l18) hnlt hn hkl (by omega) (by omega) hc' x1' y1' ((hOM _ a1).2 c hc') ((hXM _ a2).2 c hc') b1]
        by_cases hb : b = false
        · rw [if_pos hb]
          have hP := hpush hb
          rw [hXk, hYk] at hP
          refine ih2 (Int32.ofNat (n + 1), Int32.ofNat k, Int32.ofNat (X k), Int32.ofNat (Y k), Int32.ofNat (c + 1), _) ⟨n + 1, c + 1, _, _, _, _, rfl, by omega, by omega, ?_, ?_, hP⟩ (by show 4 - (Int32.ofNat (c + 1)).toInt.toNat < 4 - (Int32.ofNat c).toInt.toNat; rw [i_of (by omega), i_of (by omega)]; omega)
          · show (if k = n then _ else X' k) = X k
            rw [if_neg (by omega)]; exact hXk
          · show (if k = n then _ else Y' k) = Y k
            rw [if_neg (by omega)]; exact hYk
        · rw [if_neg hb]
          have hbt : b = true := by cases b <;> simp at hb ⊢
          refine ih2 (Int32.ofNat n, Int32.ofNat k, Int32.ofNat (X k), Int32.ofNat (Y k), Int32.ofNat (c + 1), M) ⟨n, c + 1, X', Y', D, M, rfl, hkl, by omega, hXk, hYk, hB.met hkl ?_⟩ (by show 4 - (Int32.ofNat (c + 1)).toInt.toNat < 4 - (Int32.ofNat c).toInt.toNat; rw [i_of (by omega), i_of (by omega)]; omega)
          rw [hXk, hYk]
          exact b2.mp hbt
    · rw [if_neg he]
      unfold m_Mo_equal_207
      have hF : FM M D n := ⟨hB.1.2.2.2, hB.2.2.2.2.1.1, fun m hm0 hmn => by
        obtain ⟨f, d, g1, g2, g3, g4, g5⟩ := hB.2.2.2.2.2.1 m hm0 hmn
        exact ⟨f, d, g1, g2, g4, g5⟩⟩
      obtain ⟨M1, t1, t2, t3, t4⟩ := r_tell (by rw [hln]; exact l18) (by rw [hln]; exact l19) hn hF hkl
      rw [cal_some t1 t4.le.1 t4.le.2]
      exact ok_some (Or.inr ⟨D k, rfl, hB.least hq hp hkl he, t2, t3, (hfr.mono (by decide) (by decide)).tr (t4.mono (by decide) (by decide))⟩)
