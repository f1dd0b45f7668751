/-! STEP 2: words in their order; the least word that only one of two has -/
def wv (w : List Nat) : Nat := w.foldl (fun a c => 4 * a + c) 0
theorem wv_snoc (w : List Nat) (c : Nat) : wv (w ++ [c]) = 4 * wv w + c := by
  unfold wv
  rw [List.foldl_append]
  rfl
/-- shorter first, then letter by letter -/
def sl (v w : List Nat) : Prop := v.length < w.length ∨ (v.length = w.length ∧ wv v < wv w)
theorem sl_irr (v : List Nat) : ¬ sl v v := by unfold sl; omega
theorem sl_asy {v w : List Nat} (h : sl v w) : ¬ sl w v := by unfold sl at *; omega
theorem sl_tr {u v w : List Nat} (h : sl u v) (h2 : sl v w) : sl u w := by unfold sl at *; omega
theorem sl_ntr {u v w : List Nat} (h : ¬ sl v u) (h2 : sl v w) : sl u w := by unfold sl at *; omega
theorem sl_nntr {u v w : List Nat} (h : ¬ sl v u) (h2 : ¬ sl w v) : ¬ sl w u := by unfold sl at *; omega
theorem sl_snoc {v w : List Nat} {c d : Nat} (h : sl v w) (hc : c < 4) : sl (v ++ [c]) (w ++ [d]) := by
  unfold sl at *
  rw [List.length_append, List.length_append, wv_snoc, wv_snoc, List.length_singleton, List.length_singleton]
  omega
theorem sl_let {v : List Nat} {c d : Nat} (h : c < d) : sl (v ++ [c]) (v ++ [d]) := by
  unfold sl
  rw [List.length_append, List.length_append, wv_snoc, wv_snoc, List.length_singleton, List.length_singleton]
  omega
theorem sl_n_snoc {v w : List Nat} {c : Nat} (h : ¬ sl v w) : ¬ sl (v ++ [c]) (w ++ [c]) := by
  unfold sl at *
  rw [List.length_append, List.length_append, wv_snoc, wv_snoc, List.length_singleton]
  omega
theorem sl_long (v : List Nat) (c : Nat) : sl v (v ++ [c]) := by
  unfold sl
  rw [List.length_append, List.length_singleton]
  omega
theorem lw4_snoc {w : List Nat} {c : Nat} (h : lw4 w) (hc : c < 4) : lw4 (w ++ [c]) := fun d hd => by
  rcases List.mem_append.mp hd with h1 | h1
  · exact h d h1
  · rw [List.mem_singleton.mp h1]; exact hc
theorem lw4_of {w : List Nat} {c : Nat} (h : lw4 (w ++ [c])) : lw4 w ∧ c < 4 := ⟨fun d hd => h d (List.mem_append_left _ hd), h c (List.mem_append_right _ (List.mem_singleton.mpr rfl))⟩
theorem wv_inj : ∀ (n : Nat) (v w : List Nat), v.length = n → w.length = n → lw4 v → lw4 w → wv v = wv w → v = w := by
  intro n
  induction n with
  | zero =>
    intro v w h1 h2 _ _ _
    rw [List.length_eq_zero_iff.mp h1, List.length_eq_zero_iff.mp h2]
  | succ n ih =>
    intro v w h1 h2 h3 h4 h5
    rcases List.eq_nil_or_concat v with rfl | ⟨v', c, rfl⟩
    · simp at h1
    rcases List.eq_nil_or_concat w with rfl | ⟨w', d, rfl⟩
    · simp at h2
    rw [List.concat_eq_append] at *
    rw [List.concat_eq_append] at *
    rw [List.length_append, List.length_singleton] at h1 h2
    rw [wv_snoc, wv_snoc] at h5
    obtain ⟨a1, a2⟩ := lw4_of h3
    obtain ⟨b1, b2⟩ := lw4_of h4
    have : c = d := by omega
    rw [ih v' w' (by omega) (by omega) a1 b1 (by omega), this]
def tellA (t u w : List Nat) : Prop := NS (run t w) ≠ NS (run u w)
def LeastW (t u w : List Nat) : Prop := lw4 w ∧ tellA t u w ∧ ∀ v, lw4 v → tellA t u v → ¬ sl v w
theorem LeastW.one {t u v w : List Nat} (h : LeastW t u v) (h2 : LeastW t u w) : v = w := by
  have a := h.2.2 w h2.1 h2.2.1
  have b := h2.2.2 v h.1 h.2.1
  unfold sl at a b
  exact wv_inj w.length v w (by omega) rfl h.1 h2.1 (by omega)
theorem LeastW.ne {t u w : List Nat} (h : LeastW t u w) : ¬ Eqv t u := fun e => h.2.1 (e w h.1)
/-- what equal answers, and the word that it keeps -/
def EqV (t u : List Nat) (v : Int32) (W : Option (List Nat)) : Prop := ((Big t ∨ Big u) ∧ v = -1 ∧ W = none) ∨ (¬ Big t ∧ ¬ Big u ∧ ((Eqv t u ∧ v = 1 ∧ W = none) ∨ (∃ w, LeastW t u w ∧ v = 0 ∧ W = some w)))
theorem EqV.one {t u : List Nat} {v v' : Int32} {W W' : Option (List Nat)} (h : EqV t u v W) (h2 : EqV t u v' W') : v = v' ∧ W = W' := by
  rcases h with ⟨a, b, c⟩ | ⟨a, a', h⟩ <;> rcases h2 with ⟨d, e, f⟩ | ⟨d, d', h2⟩
  · rw [b, c, e, f]; exact ⟨rfl, rfl⟩
  · rcases a with a | a
    · exact absurd a d
    · exact absurd a d'
  · rcases d with d | d
    · exact absurd d a
    · exact absurd d a'
  · rcases h with ⟨b, c, e⟩ | ⟨w, b, c, e⟩ <;> rcases h2 with ⟨b', c', e'⟩ | ⟨w', b', c', e'⟩
    · rw [c, e, c', e']; exact ⟨rfl, rfl⟩
    · exact absurd b b'.ne
    · exact absurd b' b.ne
    · rw [c, e, c', e', b.one b']; exact ⟨rfl, rfl⟩
