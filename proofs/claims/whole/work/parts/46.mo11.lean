/-! STEP 2: the reference's keep -/
theorem i_mul_of (a b : Nat) : Int32.ofNat a * Int32.ofNat b = Int32.ofNat (a * b) := (Int32.ofNat_mul a b).symm
theorem r_keep10 {M : MS} {s : Nat} (hs : s < 16) (h8 : gL M 98 = 1600) (h9 : gL M 99 = 16) (t : List Nat) (ht : At M 101 0 t) (hf : t.length ≤ 100) :
    ∀ (v u : List Nat) (F : Nat), t = u ++ v → v.length < F → fx (fun (k : Int32 × Int32 × Int32 × MS → Option (MS × Int32)) (i : Int32 × Int32 × Int32 × MS) => m_Mo_keep_10b k i.1 i.2.1 i.2.2.1 i.2.2.2) F (Int32.ofNat s, Int32.ofNat t.length, Int32.ofNat u.length, wr M 98 (100 * s) u) = some (sA (wr M 98 (100 * s) t) 99 s (Int32.ofNat t.length), Int32.ofNat t.length) := by
  intro v
  induction v with
  | nil =>
    intro u F h1 h2
    rw [List.append_nil] at h1
    subst h1
    cases F with
    | zero => simp at h2
    | succ F =>
      show m_Mo_keep_10b _ (Int32.ofNat s) (Int32.ofNat t.length) (Int32.ofNat t.length) (wr M 98 (100 * s) t) = _
      unfold m_Mo_keep_10b m_Mo_keep_38
      rw [if_pos (by rw [i_le_of (by omega) (by omega)]; omega), st_of (by show s < gL M 99; omega) (by omega)]
      rfl
  | cons x v ih =>
    intro u F h1 h2
    rw [List.length_cons] at h2
    have hlen : t.length = u.length + (v.length + 1) := by rw [h1]; simp
    cases F with
    | zero => omega
    | succ F =>
      show m_Mo_keep_10b _ (Int32.ofNat s) (Int32.ofNat t.length) (Int32.ofNat u.length) (wr M 98 (100 * s) u) = _
      unfold m_Mo_keep_10b
      have hg : At (wr M 98 (100 * s) u) 101 0 (u ++ x :: v) := At_wr_ne (by decide) (by rw [h1] at ht; exact ht)
      obtain ⟨g1, g2⟩ := hg.get
      rw [Nat.zero_add] at g1 g2
      rw [if_neg (by rw [i_le_of (by omega) (by omega)]; omega), ld_of g2 (by omega), g1]
      simp only [Option.bind_some]
      rw [show (100 : Int32) = Int32.ofNat 100 from rfl, i_mul_of, i_add_of, st_of (by show 100 * s + u.length < gL M 98; omega) (by omega)]
      simp only [Option.bind_some]
      rw [wr_snoc, show Int32.ofNat u.length + 1 = Int32.ofNat (u ++ [x]).length by rw [List.length_append]; exact i_add_of u.length 1]
      exact ih (u ++ [x]) F (by rw [h1]; simp) (by omega)
/-- keep: t into a slot, if it isn't too large -/
theorem r_keep {M : MS} {s : Nat} (hs : s < 16) (h8 : gL M 98 = 1600) (h9 : gL M 99 = 16) {t : List Nat} (ht : At M 101 0 t) (hf : t.length ≤ 100) : m_Mo_keep (Int32.ofNat s) (Int32.ofNat t.length) M = some (sA (wr M 98 (100 * s) t) 99 s (Int32.ofNat t.length), Int32.ofNat t.length) := by
  unfold m_Mo_keep m_Mo_keep_10
  rw [show (100 : Int32) = Int32.ofNat 100 from rfl, if_pos (by rw [i_le_of (by omega) (by omega)]; omega)]
  have h := r_keep10 hs h8 h9 t ht hf t [] FU rfl (by unfold FU; omega)
  rw [wr_nil] at h
  exact h
theorem r_keepN {M : MS} {s n : Nat} (hf : 100 < n) (hn : n < 1073741824) : m_Mo_keep (Int32.ofNat s) (Int32.ofNat n) M = some (M, -1) := by
  unfold m_Mo_keep
  rw [show (100 : Int32) = Int32.ofNat 100 from rfl, if_neg (by rw [i_le_of (by omega) (by omega)]; omega)]
