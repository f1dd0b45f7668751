/-! STEP 2: whether there is a word of a length; the reference's ends -/
def lv (t : List Nat) (k : Nat) : Bool := match k with
  | 0 => NS t
  | k + 1 => lv (DS 0 t) k || lv (DS 1 t) k || lv (DS 2 t) k || lv (DS 3 t) k
def o4 (f : Nat → Bool) (c : Nat) : Bool := match c with
  | 0 => false
  | c + 1 => o4 f c || f c
theorem lv_o4 (t : List Nat) (k : Nat) : lv t (k + 1) = o4 (fun d => lv (DS d t) k) 4 := by
  show (lv (DS 0 t) k || lv (DS 1 t) k || lv (DS 2 t) k || lv (DS 3 t) k) = (false || lv (DS 0 t) k || lv (DS 1 t) k || lv (DS 2 t) k || lv (DS 3 t) k)
  rw [Bool.false_or]
theorem b01_or (a b : Bool) : b01 a ||| b01 b = b01 (a || b) := by cases a <;> cases b <;> decide
theorem sA_sA {M : MS} {a j : Nat} {x y : Int32} : sA (sA M a j x) a j y = sA M a j y := by
  apply MS_ext
  · intro n p
    rw [gA_sA, gA_sA, gA_sA]
    by_cases h : n = a ∧ p = j
    · rw [if_pos h, if_pos h]
    · rw [if_neg h, if_neg h, if_neg h]
  · rfl
theorem r_ends101 {M : MS} {t : List Nat} {q : List (List Nat)} {k73 : Int32 × Int32 × Int32 × MS → Option (MS × Int32)} {k84 : Int32 × Int32 × Int32 × Int32 × MS → Option (MS × Int32)} {l2 l3 l4 : Int32} {k i : Nat} (hm : Mch t q) (hX : XM M q) (l10 : gL M 110 = 600) (l12 : gL M 112 = 150) (l13 : gL M 113 = 150) (hi : i < q.length) (hG : ∀ j, j < q.length → gA M 112 j = b01 (lv (q.getD j []) k)) :
    ∀ (d c F : Nat), c + d = 4 → d < F → fx (fun (k : Int32 × Int32 × Int32 × Int32 × Int32 × MS → Option (MS × Int32)) (i : Int32 × Int32 × Int32 × Int32 × Int32 × MS) => m_Mo_ends_101b k73 k84 k i.1 i.2.1 i.2.2.1 i.2.2.2.1 i.2.2.2.2.1 i.2.2.2.2.2) F (l2, l3, l4, Int32.ofNat i, Int32.ofNat c, sA M 113 i (b01 (o4 (fun d => lv (DS d (q.getD i [])) k) c))) = k84 (l2, l3, l4, Int32.ofNat (i + 1), sA M 113 i (b01 (lv (q.getD i []) (k + 1)))) := by
  have hl := hm.2.1
  intro d
  induction d with
  | zero =>
    intro c F h1 h2
    have hc : c = 4 := by omega
    subst hc
    cases F with
    | zero => omega
    | succ F =>
      show m_Mo_ends_101b k73 k84 _ l2 l3 l4 (Int32.ofNat i) (Int32.ofNat 4) _ = _
      unfold m_Mo_ends_101b
      rw [if_pos (by decide), lv_o4, i_inc]
  | succ d ih =>
    intro c F h1 h2
    cases F with
    | zero => omega
    | succ F =>
      show m_Mo_ends_101b k73 k84 _ l2 l3 l4 (Int32.ofNat i) (Int32.ofNat c) (sA M 113 i (b01 (o4 (fun d => lv (DS d (q.getD i [])) k) c))) = _
      unfold m_Mo_ends_101b
      obtain ⟨n1, n2⟩ := hm.nx hi (c := c) (by omega)
      have e1 := (hX i hi).2 c (by omega)
      have e2 := hG _ n1
      rw [if_neg (by rw [show (4 : Int32) = Int32.ofNat 4 from rfl, i_le_of (by omega) (by omega)]; omega), ld_of (by show _ < gL M 113; omega) (by omega), gA_sA, if_pos ⟨rfl, rfl⟩]
      simp only [Option.bind_some]
      rw [show (4 : Int32) = Int32.ofNat 4 from rfl, i_mul_of, i_add_of, ld_of (by show _ < gL M 110; omega) (by omega), gA_sA, if_neg (by omega), e1]
      simp only [Option.bind_some]
      rw [ld_of (by show _ < gL M 112; omega) (by omega), gA_sA, if_neg (by omega), e2, n2]
      simp only [Option.bind_some]
      rw [b01_or, st_of (by show _ < gL M 113; omega) (by omega), sA_sA, i_inc]
      simp only [Option.bind_some]
      exact ih (c + 1) F (by omega) (by omega)
/-- what ends answers, where the term isn't too large -/
def EnQ (t : List Nat) (n : Nat) (M0 : MS) (r : MS × Int32) : Prop := ∃ e : Bool, r.2 = b01 e ∧ (e = true ↔ ∀ m, n ≤ m → m < 2 * n → lv t m = false) ∧ Fr [112, 113] [] M0 r.1
theorem r_ends73 {M0 : MS} {t : List Nat} {q : List (List Nat)} (hm : Mch t q) (hX : XM M0 q) (l10 : gL M0 110 = 600) (l12 : gL M0 112 = 150) (l13 : gL M0 113 = 150) (M : MS) (hG : ∀ j, j < q.length → gA M 112 j = b01 (lv (q.getD j []) 0)) (hf : Fr [112, 113] [] M0 M) :
    Ok (m_Mo_ends_73 (Int32.ofNat q.length, 1, 1, M)) (EnQ t q.length M0) := by
  have hl := hm.2.1
  have hp := hm.pos
  unfold m_Mo_ends_73
  refine ok_fx (inv := fun z => ∃ (k : Nat) (e : Bool) (M : MS), z = (Int32.ofNat q.length, b01 e, Int32.ofNat (k + 1), M) ∧ k + 1 ≤ 2 * q.length ∧ (∀ j, j < q.length → gA M 112 j = b01 (lv (q.getD j []) k)) ∧ (e = true ↔ ∀ m, q.length ≤ m → m < k + 1 → lv t m = false) ∧ Fr [112, 113] [] M0 M) (μ := fun z => 301 - z.2.2.1.toInt.toNat) ?_ _ ⟨0, true, M, rfl, by omega, hG, by simp; intro m h1 h2; omega, hf⟩ (by unfold FU; omega)
  intro k73 z hz ih
  obtain ⟨k, e, M, rfl, hk, hG, he, hf⟩ := hz
  show Ok (m_Mo_ends_73b k73 (Int32.ofNat q.length) (b01 e) (Int32.ofNat (k + 1)) M) _
  unfold m_Mo_ends_73b
  rw [show (2 : Int32) = Int32.ofNat 2 from rfl, i_mul_of]
  by_cases hend : k + 1 = 2 * q.length
  · rw [if_pos (by rw [i_le_of (by omega) (by omega)]; omega)]
    unfold m_Mo_ends_206
    rw [hend] at he
    cases e with
    | true => rw [if_neg (by decide)]; exact ok_some ⟨true, rfl, he, hf⟩
    | false => rw [if_pos (by decide)]; exact ok_some ⟨false, rfl, he, hf⟩
  · rw [if_neg (by rw [i_le_of (by omega) (by omega)]; omega)]
    unfold m_Mo_ends_84
    refine ok_fx (inv := fun z => ∃ (i : Nat) (M : MS), z = (Int32.ofNat q.length, b01 e, Int32.ofNat (k + 1), Int32.ofNat i, M) ∧ i ≤ q.length ∧ (∀ j, j < q.length → gA M 112 j = b01 (lv (q.getD j []) k)) ∧ (∀ j, j < i → gA M 113 j = b01 (lv (q.getD j []) (k + 1))) ∧ Fr [112, 113] [] M0 M) (μ := fun z => 150 - z.2.2.2.1.toInt.toNat) ?_ _ ⟨0, M, rfl, by omega, hG, fun j hj => by omega, hf⟩ (by unfold FU; omega)
    intro k84 z hz ih2
    obtain ⟨i, M, rfl, hi, hG, hH, hf⟩ := hz
    have hXM := hX.fr hf (by decide) (by decide)
    show Ok (m_Mo_ends_84b k73 k84 (Int32.ofNat q.length) (b01 e) (Int32.ofNat (k + 1)) (Int32.ofNat i) M) _
    unfold m_Mo_ends_84b
    by_cases hin : i = q.length
    · rw [if_pos (by rw [hin]; exact Int32.le_refl _)]
      rw [hin] at hH
      unfold m_Mo_ends_149
      refine ok_fx (inv := fun z => ∃ (i : Nat) (M : MS), z = (Int32.ofNat q.length, b01 e, Int32.ofNat (k + 1), Int32.ofNat i, M) ∧ i ≤ q.length ∧ (∀ j, j < i → gA M 112 j = b01 (lv (q.getD j []) (k + 1))) ∧ (∀ j, j < q.length → gA M 113 j = b01 (lv (q.getD j []) (k + 1))) ∧ Fr [112, 113] [] M0 M) (μ := fun z => 150 - z.2.2.2.1.toInt.toNat) ?_ _ ⟨0, M, rfl, by omega, fun j hj => by omega, hH, hf⟩ (by unfold FU; omega)
      intro k149 z hz ih3
      obtain ⟨i, M, rfl, hi, hG, hH, hf⟩ := hz
      show Ok (m_Mo_ends_149b k73 k149 (Int32.ofNat q.length) (b01 e) (Int32.ofNat (k + 1)) (Int32.ofNat i) M) _
      unfold m_Mo_ends_149b
      by_cases hin : i = q.length
      · rw [if_pos (by rw [hin]; exact Int32.le_refl _)]
        rw [hin] at hG
        have hnext : ∀ e' : Bool, (e' = true ↔ ∀ m, q.length ≤ m → m < k + 1 + 1 → lv t m = false) → Ok (k73 (Int32.ofNat q.length, b01 e', Int32.ofNat (k + 1) + 1, M)) (EnQ t q.length M0) := fun e' h' => by
          rw [i_inc]
          exact ih (Int32.ofNat q.length, b01 e', Int32.ofNat (k + 1 + 1), M) ⟨k + 1, e', M, rfl, by omega, hG, h', hf⟩ (by show 301 - (Int32.ofNat (k + 1 + 1)).toInt.toNat < 301 - (Int32.ofNat (k + 1)).toInt.toNat; rw [i_of (by omega), i_of (by omega)]; omega)
        unfold m_Mo_ends_175
        cases e with
        | false =>
          rw [if_pos (by decide)]
          refine hnext false ⟨(fun q => by cases q), fun h => ?_⟩
          exact he.mpr (fun m h1 h2 => h m h1 (by omega))
        | true =>
          have he' := he.mp rfl
          rw [if_neg (by decide)]
          by_cases hkn : k + 1 < q.length
          · rw [if_pos (by rw [i_lt_of (by omega) (by omega)]; exact hkn)]
            exact hnext true ⟨fun _ m h1 h2 => by omega, fun _ => rfl⟩
          · rw [if_neg (by rw [i_lt_of (by omega) (by omega)]; exact hkn)]
            have h0 := hG 0 hp.1
            rw [hp.2] at h0
            rw [show ldA M 112 (0 : Int32) = some (gA M 112 0) from ld_of (i := 0) (by rw [hf.ln]; omega) (by omega), h0]
            simp only [Option.bind_some]
            cases hlv : lv t (k + 1) with
            | true =>
              rw [if_pos (by decide)]
              refine hnext false ⟨(fun q => by cases q), fun h => ?_⟩
              have := h (k + 1) (by omega) (by omega)
              rw [hlv] at this
              cases this
            | false =>
              rw [if_neg (by decide)]
              refine hnext true ⟨fun _ m h1 h2 => ?_, fun _ => rfl⟩
              by_cases hmk : m = k + 1
              · rw [hmk]; exact hlv
              · exact he' m h1 (by omega)
      · have hil : i < q.length := by omega
        rw [if_neg (by rw [i_le_of (by omega) (by omega)]; omega), ld_of (by rw [hf.ln]; omega) (by omega), hH i hil]
        simp only [Option.bind_some]
        rw [st_of (by rw [hf.ln]; omega) (by omega), i_inc]
        simp only [Option.bind_some]
        refine ih3 (Int32.ofNat q.length, b01 e, Int32.ofNat (k + 1), Int32.ofNat (i + 1), sA M 112 i (b01 (lv (q.getD i []) (k + 1)))) ⟨i + 1, _, rfl, by omega, fun j hj => ?_, fun j hj => ?_, hf.tr (Fr.stA (by decide))⟩ (by show 150 - (Int32.ofNat (i + 1)).toInt.toNat < 150 - (Int32.ofNat i).toInt.toNat; rw [i_of (by omega), i_of (by omega)]; omega)
        · rw [gA_sA]
          by_cases hji : j = i
          · rw [if_pos ⟨rfl, hji⟩, hji]
          · rw [if_neg (by omega)]; exact hG j (by omega)
        · rw [gA_sA, if_neg (by omega)]; exact hH j hj
    · have hil : i < q.length := by omega
      rw [if_neg (by rw [i_le_of (by omega) (by omega)]; omega), st_of (by rw [hf.ln]; omega) (by omega)]
      simp only [Option.bind_some]
      have h101 := r_ends101 (M := M) (k73 := k73) (k84 := k84) (l2 := Int32.ofNat q.length) (l3 := b01 e) (l4 := Int32.ofNat (k + 1)) hm hXM (by rw [hf.ln]; exact l10) (by rw [hf.ln]; exact l12) (by rw [hf.ln]; exact l13) hil hG 4 0 FU (by omega) (by unfold FU; omega)
      refine ok_eq h101 ?_
      refine ih2 (Int32.ofNat q.length, b01 e, Int32.ofNat (k + 1), Int32.ofNat (i + 1), sA M 113 i (b01 (lv (q.getD i []) (k + 1)))) ⟨i + 1, _, rfl, by omega, fun j hj => ?_, fun j hj => ?_, hf.tr (Fr.stA (by decide))⟩ (by show 150 - (Int32.ofNat (i + 1)).toInt.toNat < 150 - (Int32.ofNat i).toInt.toNat; rw [i_of (by omega), i_of (by omega)]; omega)
      · rw [gA_sA, if_neg (by omega)]; exact hG j hj
      · rw [gA_sA]
        by_cases hji : j = i
        · rw [if_pos ⟨rfl, hji⟩, hji]
        · rw [if_neg (by omega)]; exact hH j (by omega)
def EnV (t : List Nat) (v : Int32) : Prop := (Big t ∧ v = -1) ∨ (∃ q, Mch t q ∧ ∃ e : Bool, v = b01 e ∧ (e = true ↔ ∀ m, q.length ≤ m → m < 2 * q.length → lv t m = false))
theorem EnV.one {t : List Nat} {v w : Int32} (h : EnV t v) (h2 : EnV t w) : v = w := by
  rcases h with ⟨a, b⟩ | ⟨q, a, e, b, b'⟩ <;> rcases h2 with ⟨c, d⟩ | ⟨p, c, f, d, d'⟩
  · rw [b, d]
  · exact absurd a c.nBig
  · exact absurd c a.nBig
  · rw [a.len c a.rcm c.rcm, ← d'] at b'
    have : e = f := by
      cases e <;> cases f
      · rfl
      · exact b'.mpr rfl
      · exact (b'.mp rfl).symm
      · rfl
    rw [b, d, this]
theorem r_ends_bad {S : Nat → List Nat} {W : Option (List Nat)} {M : MS} {a : Int32} (hI : RI S W M) (h : slB a = false) : RA S W M (m_Mo_ends a M) 0 1 := by
  have e : m_Mo_ends a M = some (sI M 97 0 1, 0) := by
    simp only [m_Mo_ends, m_Mo_ends_13, r_isSlot, cal_same, h, b01_f, i10, not_true_eq_false, if_false, r_fail1, cal_sI]
  rw [e]
  exact RA.fail hI _ _
theorem r_ends {S : Nat → List Nat} {W : Option (List Nat)} {M : MS} {a : Nat} (hI : RI S W M) (ha : a < 16) : RX S W M (m_Mo_ends (Int32.ofNat a) M) (EnV (S a)) := by
  have e : m_Mo_ends (Int32.ofNat a) M = m_Mo_ends_13 (Int32.ofNat a) 0 M := by
    simp only [m_Mo_ends, r_isSlot, cal_same, slB_nat ha, b01_t, i10, not_false_eq_true, if_true]
  rw [e]
  unfold m_Mo_ends_13
  rw [r_fail0, cal_sI, if_pos (by show (0 : Int32) = 0; decide)]
  have hI0 := hI.thr 0
  have hth : gI (sI M 97 0 0) 97 0 = 0 := by rw [gI_sI, if_pos ⟨rfl, rfl⟩]
  have hF0 : FrR M (sI M 97 0 0) := FrR.thr 0
  generalize sI M 97 0 0 = M1 at hI0 hth hF0
  refine explore_then hI0 ha (G := fun x => RX S W M x (EnV (S a))) (fun hb M2 hI2 hf => ?_) (fun q M2 hm hX hI2 hf => ?_)
  · rw [if_neg (by show ¬ ¬ (-1 : Int32) = -1; decide)]
    exact ⟨-1, ⟨M2, rfl, hI2, hF0.tr (FrE hf), by rw [ThE hf]; exact hth⟩, Or.inl ⟨hb, rfl⟩⟩
  · have hql := hm.2.1
    rw [if_pos (i_nm1 (by omega))]
    obtain ⟨-, -, ⟨-, -, l10, -, l12, l13, l14, -⟩, -⟩ := hI2.1
    have hgo : Ok (m_Mo_ends_37 (Int32.ofNat q.length, 0, M2)) (EnQ (S a) q.length M2) := by
      unfold m_Mo_ends_37
      refine ok_fx (inv := fun z => ∃ (i : Nat) (M : MS), z = (Int32.ofNat q.length, Int32.ofNat i, M) ∧ i ≤ q.length ∧ (∀ j, j < i → gA M 112 j = b01 (lv (q.getD j []) 0)) ∧ Fr [112, 113] [] M2 M) (μ := fun z => 150 - z.2.1.toInt.toNat) ?_ _ ⟨0, M2, rfl, by omega, fun j hj => by omega, Fr.rf⟩ (by unfold FU; omega)
      intro k37 z hz ih
      obtain ⟨i, M3, rfl, hi, hG, hf3⟩ := hz
      show Ok (m_Mo_ends_37b k37 (Int32.ofNat q.length) (Int32.ofNat i) M3) _
      unfold m_Mo_ends_37b
      by_cases hin : i = q.length
      · rw [if_pos (by rw [hin]; exact Int32.le_refl _)]
        rw [hin] at hG
        exact r_ends73 hm hX l10 l12 l13 M3 hG hf3
      · have hil : i < q.length := by omega
        have hv := ((hX.fr hf3 (by decide) (by decide)) i hil).1
        rw [if_neg (by rw [i_le_of (by omega) (by omega)]; omega), ld_of (by rw [hf3.ln]; omega) (by omega), hv]
        simp only [Option.bind_some]
        have hput : ∀ v : Int32, v = b01 (lv (q.getD i []) 0) → Ok (m_Mo_ends_61 k37 (Int32.ofNat q.length) (Int32.ofNat i) (Int32.ofNat i) v M3) (EnQ (S a) q.length M2) := by
          intro v hv
          unfold m_Mo_ends_61
          rw [st_of (by rw [hf3.ln]; omega) (by omega), i_inc]
          simp only [Option.bind_some]
          refine ih (Int32.ofNat q.length, Int32.ofNat (i + 1), sA M3 112 i v) ⟨i + 1, _, rfl, by omega, fun j hj => ?_, hf3.tr (Fr.stA (by decide))⟩ (by show 150 - (Int32.ofNat (i + 1)).toInt.toNat < 150 - (Int32.ofNat i).toInt.toNat; rw [i_of (by omega), i_of (by omega)]; omega)
          rw [gA_sA]
          by_cases hji : j = i
          · rw [if_pos ⟨rfl, hji⟩, hji]; exact hv
          · rw [if_neg (by omega)]; exact hG j (by omega)
        cases hN : NS (q.getD i []) with
        | true => rw [if_neg (by decide)]; exact hput 1 (by unfold lv; rw [hN]; rfl)
        | false => rw [if_pos (by decide)]; exact hput 0 (by unfold lv; rw [hN]; rfl)
    obtain ⟨r, g1, e', g2, g3, g4⟩ := hgo
    have g1' : m_Mo_ends_37 ((M2, Int32.ofNat q.length).2, 0, (M2, Int32.ofNat q.length).1) = some (r.1, r.2) := g1
    rw [g1']
    refine ⟨r.2, ⟨r.1, rfl, hI2.fr g4 (by decide) (by decide) (by decide) (by decide), (hF0.tr (FrE hf)).tr (g4.toR (by decide) (by decide)), ?_⟩, Or.inr ⟨q, hm, e', g2, g3⟩⟩
    rw [g4.gi (by decide), ThE hf]
    exact hth
