/-! STEP 2: how many languages: numberings of a machine's states -/
theorem nodup_leG {α : Type} : ∀ (l m : List α), l.Nodup → (∀ x ∈ l, x ∈ m) → l.length ≤ m.length := by
  intro l
  induction l with
  | nil => intro m _ _; exact Nat.zero_le _
  | cons x l ih =>
    intro m hn hs
    rw [List.nodup_cons] at hn
    obtain ⟨a, b, hab⟩ := List.append_of_mem (hs x List.mem_cons_self)
    have := ih (a ++ b) hn.2 (fun y hy => by
      have h1 := hs y (List.mem_cons_of_mem _ hy)
      rw [hab] at h1
      rcases List.mem_append.mp h1 with h | h
      · exact List.mem_append_left _ h
      · rcases List.mem_cons.mp h with h | h
        · subst h; exact absurd hy hn.1
        · exact List.mem_append_right _ h)
    rw [hab, List.length_append, List.length_cons, List.length_cons]
    rw [List.length_append] at this
    omega
theorem php {a b : Nat} {f : Nat → Nat} (h : ∀ i, i < a → f i < b) (hi : ∀ i j, i < a → j < a → f i = f j → i = j) : a ≤ b := by
  have h1 : ((List.range a).map f).Nodup := by
    refine List.pairwise_map.mpr (List.Pairwise.imp_of_mem (fun {x y} hx hy hne he => hne (hi x y (List.mem_range.mp hx) (List.mem_range.mp hy) he)) (List.nodup_range (n := a)))
  have h2 := nodup_leG _ (List.range b) h1 (fun x hx => by
    obtain ⟨i, hi, rfl⟩ := List.mem_map.mp hx
    exact List.mem_range.mpr (h i (List.mem_range.mp hi)))
  rw [List.length_map, List.length_range, List.length_range] at h2
  exact h2
def Eqv (u v : List Nat) : Prop := ∀ w, lw4 w → NS (run u w) = NS (run v w)
theorem Eqv.step {u v : List Nat} (h : Eqv u v) {c : Nat} (hc : c < 4) : Eqv (DS c u) (DS c v) := fun w hw => h (c :: w) (fun d hd => by
  rcases List.mem_cons.mp hd with rfl | hd
  · exact hc
  · exact hw d hd)
theorem Eqv.ns {u v : List Nat} (h : Eqv u v) : NS u = NS v := h [] (fun c hc => by cases hc)
/-- the state that a letter leads to -/
def nxq (q : List (List Nat)) (i c : Nat) : Nat := ix (DS c (q.getD i [])) q
/-- a numbering with g numbers, each of them taken -/
def Num (n : Nat) (G : Nat → Nat) (g : Nat) : Prop := (∀ i, i < n → G i < g) ∧ ∀ k, k < g → ∃ i, i < n ∧ G i = k
theorem Num.rep {n g : Nat} {G : Nat → Nat} (h : Num n G g) : ∃ r : Nat → Nat, ∀ k, k < g → r k < n ∧ G (r k) = k :=
  ⟨fun k => if hk : k < g then Classical.choose (h.2 k hk) else 0, fun k hk => by
    simp only [dif_pos hk]
    exact Classical.choose_spec (h.2 k hk)⟩
theorem Num.le {n g : Nat} {G : Nat → Nat} (h : Num n G g) : g ≤ n := by
  obtain ⟨r, hr⟩ := h.rep
  refine php (f := r) (fun i hi => (hr i hi).1) (fun i j hi hj e => ?_)
  rw [← (hr i hi).2, ← (hr j hj).2, e]
/-- a finer numbering has no fewer numbers -/
theorem Num.fine {n g g' : Nat} {G G' : Nat → Nat} (h : Num n G g) (h' : Num n G' g') (hf : ∀ i j, i < n → j < n → G' i = G' j → G i = G j) : g ≤ g' := by
  obtain ⟨r, hr⟩ := h.rep
  refine php (f := fun k => G' (r k)) (fun i hi => h'.1 _ (hr i hi).1) (fun i j hi hj e => ?_)
  have := hf _ _ (hr i hi).1 (hr j hj).1 e
  rw [(hr i hi).2, (hr j hj).2] at this
  exact this
/-- a finer numbering with as many numbers is the same -/
theorem Num.same {n g : Nat} {G G' : Nat → Nat} (h : Num n G g) (h' : Num n G' g) (hf : ∀ i j, i < n → j < n → G' i = G' j → G i = G j) : ∀ i j, i < n → j < n → G i = G j → G' i = G' j := by
  intro i j hi hj e
  refine Classical.byContradiction (fun hne => ?_)
  obtain ⟨r, hr⟩ := h.rep
  have hgi := h.1 i hi
  obtain ⟨y, hy, hGy, hny⟩ : ∃ y, y < n ∧ G y = G i ∧ G' y ≠ G' (r (G i)) := by
    by_cases hc : G' i = G' (r (G i))
    · exact ⟨j, hj, e.symm, fun q => hne (by rw [hc, q])⟩
    · exact ⟨i, hi, rfl, hc⟩
  have hle : g + 1 ≤ g := by
    refine php (f := fun k => if k < g then G' (r k) else G' y) (fun k hk => ?_) (fun a b ha hb hab => ?_)
    · show (if k < g then G' (r k) else G' y) < g
      split
      · rename_i hk
        exact h'.1 _ (hr k hk).1
      · exact h'.1 y hy
    · have hab : (if a < g then G' (r a) else G' y) = if b < g then G' (r b) else G' y := hab
      have key : ∀ k, k < g → G' (r k) = G' y → False := fun k hk q => by
        have h1 := hf _ _ (hr k hk).1 hy q
        rw [(hr k hk).2, hGy] at h1
        subst h1
        exact hny q.symm
      by_cases h1 : a < g
      · rw [if_pos h1] at hab
        by_cases h2 : b < g
        · rw [if_pos h2] at hab
          have := hf _ _ (hr a h1).1 (hr b h2).1 hab
          rw [(hr a h1).2, (hr b h2).2] at this
          exact this
        · rw [if_neg h2] at hab
          exact (key a h1 hab).elim
      · rw [if_neg h1] at hab
        by_cases h2 : b < g
        · rw [if_pos h2] at hab
          exact (key b h2 hab.symm).elim
        · omega
  omega
/-- coarser than the languages, finer than the empty word -/
def Good (q : List (List Nat)) (G : Nat → Nat) : Prop := (∀ i j, i < q.length → j < q.length → G i = G j → NS (q.getD i []) = NS (q.getD j [])) ∧ (∀ i j, i < q.length → j < q.length → Eqv (q.getD i []) (q.getD j []) → G i = G j)
/-- a numbering that letters respect tells the languages -/
theorem Good.all {t : List Nat} {q : List (List Nat)} {G : Nat → Nat} (hm : Mch t q) (h : Good q G) (hs : ∀ i j, i < q.length → j < q.length → G i = G j → ∀ c, c < 4 → G (nxq q i c) = G (nxq q j c)) : ∀ i j, i < q.length → j < q.length → (G i = G j ↔ Eqv (q.getD i []) (q.getD j [])) := by
  have go : ∀ (w : List Nat) (i j : Nat), i < q.length → j < q.length → G i = G j → lw4 w → NS (run (q.getD i []) w) = NS (run (q.getD j []) w) := by
    intro w
    induction w with
    | nil => intro i j hi hj e _; exact h.1 i j hi hj e
    | cons c w ih =>
      intro i j hi hj e hw
      have hc : c < 4 := hw c List.mem_cons_self
      obtain ⟨i1, i2⟩ := hm.nx hi hc
      obtain ⟨j1, j2⟩ := hm.nx hj hc
      have := ih _ _ i1 j1 (hs i j hi hj e c hc) (fun d hd => hw d (List.mem_cons_of_mem _ hd))
      rw [i2, j2] at this
      exact this
  exact fun i j hi hj => ⟨fun e w hw => go w i j hi hj e hw, fun e => h.2 i j hi hj e⟩
def LgV (t : List Nat) (v : Int32) : Prop := (Big t ∧ v = -1) ∨ (∃ q G g, Mch t q ∧ (∀ i j, i < q.length → j < q.length → (G i = G j ↔ Eqv (q.getD i []) (q.getD j []))) ∧ Num q.length G g ∧ v = Int32.ofNat g)
theorem LgV.le {t : List Nat} {q p : List (List Nat)} {G H : Nat → Nat} {g h : Nat} (a : Mch t q) (b : ∀ i j, i < q.length → j < q.length → (G i = G j ↔ Eqv (q.getD i []) (q.getD j []))) (c : Num q.length G g) (a' : Mch t p) (b' : ∀ i j, i < p.length → j < p.length → (H i = H j ↔ Eqv (p.getD i []) (p.getD j []))) (c' : Num p.length H h) : g ≤ h := by
  obtain ⟨r, hr⟩ := c.rep
  have hx : ∀ k, k < g → ix (q.getD (r k) []) p < p.length ∧ p.getD (ix (q.getD (r k) []) p) [] = q.getD (r k) [] := fun k hk => ix_mem (a'.all _ (a.rc _ (hr k hk).1))
  refine php (f := fun k => H (ix (q.getD (r k) []) p)) (fun i hi => c'.1 _ (hx i hi).1) (fun i j hi hj e => ?_)
  have h1 := (b' _ _ (hx i hi).1 (hx j hj).1).mp e
  rw [(hx i hi).2, (hx j hj).2] at h1
  have h2 := (b _ _ (hr i hi).1 (hr j hj).1).mpr h1
  rw [(hr i hi).2, (hr j hj).2] at h2
  exact h2
theorem LgV.one {t : List Nat} {v w : Int32} (h : LgV t v) (h2 : LgV t w) : v = w := by
  rcases h with ⟨a, b⟩ | ⟨q, G, g, a, b, c, d⟩ <;> rcases h2 with ⟨a', b'⟩ | ⟨p, H, k, a', b', c', d'⟩
  · rw [b, b']
  · exact absurd a a'.nBig
  · exact absurd a' a.nBig
  · rw [d, d', Nat.le_antisymm (LgV.le a b c a' b' c') (LgV.le a' b' c' a b c)]
