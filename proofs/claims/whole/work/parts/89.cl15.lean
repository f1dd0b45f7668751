/-! STEP 2, the class: how long the right spine of a derivative is -/
def sT (n : Nat) (t : List Nat) : Nat := match n with
  | 0 => 1
  | n + 1 => if hd t = 3 then 1 + sT n ((pts t).getLastD []) else 1
def sbF (m x : Nat) (ks : List (List Nat × Prop)) : List Nat × Prop := (x :: (ks.map Prod.fst).flatten, (∀ n, sT n (x :: (ks.map Prod.fst).flatten) ≤ m) ∧ ∀ k ∈ ks, k.2)
/-- each part of a term, at any depth, has at most this spine -/
def SB (m : Nat) (t : List Nat) : Prop := (vl (sbF m) ([], True) t).2
theorem sb_id {m : Nat} : ∀ t, wf t → (vl (sbF m) ([], True) t).1 = t := by
  refine wf_ind (P := fun t => (vl (sbF m) ([], True) t).1 = t) (fun x ps hx hp ih => ?_)
  rw [vl_mk (sbF m) _ hx hp]
  show x :: ((ps.map (vl (sbF m) ([], True))).map Prod.fst).flatten = _
  rw [List.map_map]
  have : ps.map (Prod.fst ∘ vl (sbF m) ([], True)) = ps := by
    conv => rhs; rw [← List.map_id ps]
    apply List.map_congr_left
    intro p hpp
    exact ih p hpp
  rw [this]
theorem SB_mk {m x : Nat} {ps : List (List Nat)} (hx : ar x = ps.length) (hp : ∀ p ∈ ps, wf p) : SB m (x :: ps.flatten) ↔ (∀ n, sT n (x :: ps.flatten) ≤ m) ∧ ∀ p ∈ ps, SB m p := by
  unfold SB
  rw [vl_mk (sbF m) _ hx hp]
  have e : ((ps.map (vl (sbF m) ([], True))).map Prod.fst) = ps := by
    rw [List.map_map]
    conv => rhs; rw [← List.map_id ps]
    apply List.map_congr_left
    intro p hpp
    exact sb_id p (hp p hpp)
  show (∀ n, sT n (x :: ((ps.map (vl (sbF m) ([], True))).map Prod.fst).flatten) ≤ m) ∧ (∀ k ∈ ps.map (vl (sbF m) ([], True)), k.2) ↔ _
  rw [e]
  constructor
  · intro ⟨h1, h2⟩
    exact ⟨h1, fun p hpp => h2 _ (List.mem_map.mpr ⟨p, hpp, rfl⟩)⟩
  · intro ⟨h1, h2⟩
    refine ⟨h1, fun k hk => ?_⟩
    obtain ⟨p, hpp, rfl⟩ := List.mem_map.mp hk
    exact h2 p hpp
theorem SB.mono {m m' : Nat} (hm : m ≤ m') : ∀ t, wf t → SB m t → SB m' t := by
  refine wf_ind (P := fun t => SB m t → SB m' t) (fun x ps hx hp ih h => ?_)
  obtain ⟨h1, h2⟩ := (SB_mk hx hp).mp h
  exact (SB_mk hx hp).mpr ⟨fun n => Nat.le_trans (h1 n) hm, fun p hpp => ih p hpp (h2 p hpp)⟩
theorem sT_ne {t : List Nat} (h : ¬ hd t = 3) (n : Nat) : sT n t = 1 := by
  cases n with
  | zero => rfl
  | succ n =>
    unfold sT
    rw [if_neg h]
theorem SB.top {m : Nat} {t : List Nat} (ht : wf t) (h : SB m t) (n : Nat) : sT n t ≤ m := by
  obtain ⟨x, ps, rfl, hx, hp⟩ := wf_split ht
  exact ((SB_mk hx hp).mp h).1 n
theorem SB.pts {m : Nat} {t : List Nat} (ht : wf t) (h : SB m t) : ∀ p ∈ pts t, SB m p := by
  obtain ⟨x, ps, rfl, hx, hp⟩ := wf_split ht
  rw [pts_mk hx hp]
  exact ((SB_mk hx hp).mp h).2
theorem SB.ptS {m s : Nat} {t : List Nat} (ht : wf t) (h : SB m t) : ∀ p ∈ pt s t, SB m p := by
  unfold pt
  split
  · exact h.pts ht
  · intro p hp
    rw [List.mem_singleton.mp hp]
    exact h
theorem sT_len : ∀ t, wf t → ∀ n, sT n t ≤ t.length := by
  refine wf_ind (P := fun t => ∀ n, sT n t ≤ t.length) (fun x ps hx hp ih n => ?_)
  cases n with
  | zero => show 1 ≤ _; rw [List.length_cons]; omega
  | succ n =>
    unfold sT
    by_cases h3 : x = 3
    · rw [if_pos (show hd (x :: ps.flatten) = 3 from h3), pts_mk hx hp]
      rw [h3] at hx
      match ps, hx, hp, ih with
      | [a, b], _, hp, ih =>
        have := ih b (by simp) n
        have ha : 1 ≤ a.length := List.length_pos_iff.mpr (wf_ne (hp a (by simp)))
        show 1 + sT n b ≤ _
        simp only [List.flatten_cons, List.flatten_nil, List.append_nil, List.length_cons, List.length_append]
        omega
    · rw [if_neg (show ¬ hd (x :: ps.flatten) = 3 from h3), List.length_cons]
      omega
theorem SB_self : ∀ t, wf t → SB t.length t := by
  refine wf_ind (P := fun t => SB t.length t) (fun x ps hx hp ih => ?_)
  refine (SB_mk hx hp).mpr ⟨sT_len _ (wf_mk hx hp), fun p hpp => ?_⟩
  refine SB.mono ?_ p (hp p hpp) (ih p hpp)
  have := mem_flatten_len hpp
  rw [List.length_cons]
  omega
theorem SB_leaf {m x : Nat} (hx : ar x = 0) (h3 : x ≠ 3) (hm : 1 ≤ m) : SB m [x] := by
  have h := SB_mk (m := m) (x := x) (ps := []) hx (fun p hp => by cases hp)
  refine h.mpr ⟨fun n => ?_, fun p hp => by cases hp⟩
  rw [sT_ne (show ¬ hd (x :: ([] : List (List Nat)).flatten) = 3 from h3)]
  exact hm
theorem SB_un {m x : Nat} {a : List Nat} (hx : ar x = 1) (h3 : x ≠ 3) (hm : 1 ≤ m) (wa : wf a) (ha : SB m a) : SB m (x :: a) := by
  have h := SB_mk (m := m) (x := x) (ps := [a]) hx (fun p hp => by rw [List.mem_singleton.mp hp]; exact wa)
  have e : x :: [a].flatten = x :: a := by simp
  rw [e] at h
  refine h.mpr ⟨fun n => ?_, fun p hp => by rw [List.mem_singleton.mp hp]; exact ha⟩
  rw [sT_ne (show ¬ hd (x :: a) = 3 from h3)]
  exact hm
theorem SB_60 {m : Nat} (hm : 1 ≤ m) : SB m [6, 0] := SB_un rfl (by decide) hm wf_0 (SB_leaf rfl (by decide) hm)
theorem SB_uni {s m : Nat} (hs : s = 4 ∨ s = 5) (hm : 1 ≤ m) {ps : List (List Nat)} (hw : ∀ p ∈ ps, wf p) (h : ∀ p ∈ ps, SB m p) : SB m (uni s ps) := by
  have h0 : SB m [0] := SB_leaf rfl (by decide) hm
  unfold uni
  split
  · unfold swS
    split
    · exact SB_60 hm
    · exact h0
  · split
    · exact h0
    · have hl : ∀ p ∈ srt (ps.filter (fun p => decide (¬ hd p % 8 = 2 ∧ p ≠ neS s)) ++ (if ps.filter (fun p => decide (hd p % 8 = 2)) = [] then [] else [[2 + 8 * ltS s (ps.filter (fun p => decide (hd p % 8 = 2)))]])), SB m p ∧ wf p := by
        intro p hp
        rw [mem_srt, List.mem_append] at hp
        rcases hp with hp | hp
        · exact ⟨h p (List.mem_filter.mp hp).1, hw p (List.mem_filter.mp hp).1⟩
        · split at hp
          · cases hp
          · rw [List.mem_singleton.mp hp]
            exact ⟨SB_leaf (ar_cl _) (by omega) hm, wf_leaf (ar_cl _)⟩
      generalize srt (ps.filter (fun p => decide (¬ hd p % 8 = 2 ∧ p ≠ neS s)) ++ (if ps.filter (fun p => decide (hd p % 8 = 2)) = [] then [] else [[2 + 8 * ltS s (ps.filter (fun p => decide (hd p % 8 = 2)))]])) = l at hl
      match l, hl with
      | [], _ =>
        show SB m (neS s)
        unfold neS
        split
        · exact h0
        · exact SB_60 hm
      | [p], hl => exact (hl p List.mem_cons_self).1
      | p :: q :: r, hl =>
        refine (SB_mk (m := m) (x := s + 8 * (p :: q :: r).length) (ps := p :: q :: r) (ar_or hs _) (fun z hz => (hl z hz).2)).mpr ⟨fun n => ?_, fun z hz => (hl z hz).1⟩
        rw [sT_ne]
        · exact hm
        · show ¬ s + 8 * (p :: q :: r).length = 3
          omega
theorem SB_cat2 {m : Nat} {a b : List Nat} (wa : wf a) (wb : wf b) (ha : SB m a) (hb : SB m b) (h : ∀ n, 1 + sT n b ≤ m) : SB m (3 :: (a ++ b)) := by
  have hw : ∀ p ∈ [a, b], wf p := fun p hp => by
    simp only [List.mem_cons, List.not_mem_nil, or_false] at hp
    rcases hp with rfl | rfl
    · exact wa
    · exact wb
  have hq := SB_mk (m := m) (x := 3) (ps := [a, b]) rfl hw
  have e : 3 :: [a, b].flatten = 3 :: (a ++ b) := by simp
  rw [e] at hq
  refine hq.mpr ⟨fun n => ?_, fun p hp => ?_⟩
  · cases n with
    | zero => have := h 0; show 1 ≤ m; omega
    | succ n =>
      unfold sT
      have hpts := pts_mk (x := 3) (ps := [a, b]) rfl hw
      rw [e] at hpts
      rw [if_pos (show hd (3 :: (a ++ b)) = 3 from rfl), hpts]
      exact h n
  · simp only [List.mem_cons, List.not_mem_nil, or_false] at hp
    rcases hp with rfl | rfl
    · exact ha
    · exact hb
theorem sT_cat2 {a b : List Nat} (wa : wf a) (wb : wf b) (n : Nat) : sT n (3 :: (a ++ b)) ≤ 1 + sT (n - 1) b := by
  have hw : ∀ p ∈ [a, b], wf p := fun p hp => by
    simp only [List.mem_cons, List.not_mem_nil, or_false] at hp
    rcases hp with rfl | rfl
    · exact wa
    · exact wb
  have e : 3 :: [a, b].flatten = 3 :: (a ++ b) := by simp
  have hpts := pts_mk (x := 3) (ps := [a, b]) rfl hw
  rw [e] at hpts
  cases n with
  | zero => show 1 ≤ _; omega
  | succ n =>
    show (if hd (3 :: (a ++ b)) = 3 then 1 + sT n ((pts (3 :: (a ++ b))).getLastD []) else 1) ≤ _
    rw [if_pos (show hd (3 :: (a ++ b)) = 3 from rfl), hpts]
    exact Nat.le_refl _
theorem SB_catF {m k j : Nat} {b : List Nat} (wb : wf b) (hb : SB m b) (hj : ∀ n, sT n b ≤ j) (hk1 : 1 ≤ k) (hkj : k + j ≤ m) : ∀ (f : Nat) (a : List Nat), wf a → a.length ≤ f → SB m a → (∀ n, sT n a ≤ k) → SB m (catF f a b) ∧ ∀ n, sT n (catF f a b) ≤ k + j := by
  intro f
  induction f generalizing k with
  | zero =>
    intro a wa hl
    exact absurd (List.length_eq_zero_iff.mp (by omega)) (wf_ne wa)
  | succ f ih =>
    intro a wa hl ha hsa
    unfold catF
    by_cases h3 : hd a = 3
    · rw [if_pos h3]
      obtain ⟨p, q, h1, h2, h3', h4⟩ := pts_two wa h3
      rw [h1]
      have hpl : 1 ≤ p.length := List.length_pos_iff.mpr (wf_ne h2)
      rw [h4, List.length_cons, List.length_append] at hl
      have hsq : ∀ n, 1 + sT n q ≤ k := fun n => by
        have := hsa (n + 1)
        unfold sT at this
        rw [if_pos h3, h1] at this
        exact this
      have hk2 : 2 ≤ k := by have := hsq 0; show 2 ≤ k; have e : sT 0 q = 1 := rfl; omega
      obtain ⟨i1, i2⟩ := ih (k := k - 1) (by omega) (by omega) q h3' (by omega) (ha.pts wa q (by rw [h1]; simp)) (fun n => by have := hsq n; omega)
      have wc := wf_catF wb f q h3'
      refine ⟨SB_cat2 h2 wc (ha.pts wa p (by rw [h1]; simp)) i1 (fun n => by have := i2 n; show 1 + sT n (catF f q b) ≤ m; omega), fun n => ?_⟩
      refine Nat.le_trans (sT_cat2 h2 wc n) ?_
      have := i2 (n - 1)
      omega
    · rw [if_neg h3]
      refine ⟨SB_cat2 wa wb ha hb (fun n => by have := hj n; omega), fun n => ?_⟩
      refine Nat.le_trans (sT_cat2 wa wb n) ?_
      have := hj (n - 1)
      omega
theorem SB_catS {m k j : Nat} {a b : List Nat} (wa : wf a) (wb : wf b) (ha : SB m a) (hb : SB m b) (hsa : ∀ n, sT n a ≤ k) (hj : ∀ n, sT n b ≤ j) (hkj : k + j ≤ m) : SB m (catS a b) := by
  have hk1 : 1 ≤ k := hsa 0
  unfold catS
  split
  · exact SB_leaf rfl (by decide) (by omega)
  · split
    · exact hb
    · split
      · exact ha
      · exact (SB_catF wb hb hj hk1 hkj a.length a wa (Nat.le_refl _) ha hsa).1
theorem SB_DS {c : Nat} : ∀ t, wf t → SB (t.length + 1) (DS c t) := by
  refine wf_cases (P := fun t => SB (t.length + 1) (DS c t)) (fun x hx => ?_) (fun x a b hx ha hb pa pb => ?_) (fun x ps hx hl hp ih => ?_) (fun x a hx ha pa => ?_) (fun x a hx ha pa => ?_)
  · rw [DS_leaf hx]
    split
    · exact SB_leaf rfl (by decide) (by omega)
    · exact SB_leaf rfl (by decide) (by omega)
  · have wA := wf_DS (c := c) a ha
    have hlen : (x :: (a ++ b)).length = a.length + b.length + 1 := by rw [List.length_cons, List.length_append]
    have hbl : 1 ≤ b.length := List.length_pos_iff.mpr (wf_ne hb)
    have hcat : SB ((x :: (a ++ b)).length + 1) (catS (DS c a) b) := SB_catS (k := a.length + 1) (j := b.length) wA hb (SB.mono (by omega) _ wA pa) (SB.mono (by omega) _ hb (SB_self b hb)) (pa.top wA) (sT_len b hb) (by omega)
    rw [DS_cat ha hb hx]
    split
    · refine SB_uni (Or.inl rfl) (by omega) (fun p hp => ?_) (fun p hp => ?_)
      · rcases List.mem_append.mp hp with hp | hp
        · exact pt_wf (wf_catS wA hb) p hp
        · exact pt_wf (wf_DS b hb) p hp
      · rcases List.mem_append.mp hp with hp | hp
        · exact hcat.ptS (wf_catS wA hb) p hp
        · exact (SB.mono (by omega) _ (wf_DS b hb) pb).ptS (wf_DS b hb) p hp
    · exact hcat
  · rw [DS_several hl hp hx]
    refine SB_uni hx (by omega) (fun p hpp => ?_) (fun p hpp => ?_)
    · obtain ⟨l, hl1, hl2⟩ := List.mem_flatten.mp hpp
      obtain ⟨q, hq, rfl⟩ := List.mem_map.mp hl1
      exact pt_wf (wf_DS q (hp q hq)) p hl2
    · obtain ⟨l, hl1, hl2⟩ := List.mem_flatten.mp hpp
      obtain ⟨q, hq, rfl⟩ := List.mem_map.mp hl1
      have hml := mem_flatten_len hq
      exact (SB.mono (by rw [List.length_cons]; omega) _ (wf_DS q (hp q hq)) (ih q hq)).ptS (wf_DS q (hp q hq)) p hl2
  · rw [DS_not ha hx]
    have wA := wf_DS (c := c) a ha
    have h1 : SB ((x :: a).length + 1) (DS c a) := SB.mono (by rw [List.length_cons]; omega) _ wA pa
    unfold notS
    split
    · rename_i h6
      obtain ⟨p, h2, h3, h4⟩ := pts_one wA (by rw [h6]; rfl)
      have := h1.pts wA p (by rw [h2]; simp)
      rw [h4]
      exact this
    · exact SB_un rfl (by decide) (by omega) wA h1
  · rw [DS_star ha hx]
    have wA := wf_DS (c := c) a ha
    have w7 : wf (x :: a) := wf_un (ar_1 (by omega)) ha
    have h3 : ¬ hd (x :: a) = 3 := by show ¬ x = 3; omega
    refine SB_catS (k := a.length + 1) (j := 1) wA w7 (SB.mono (by rw [List.length_cons]; omega) _ wA pa) (SB.mono (by omega) _ w7 (SB_self _ w7)) (pa.top wA) (fun n => by rw [sT_ne h3]; exact Nat.le_refl _) (by rw [List.length_cons]; omega)
theorem spI_sT {g : TG} (h : TB g) : ∀ (f i : Nat), i < tU g → i ≤ f → ∃ n, (spI g f i).length = sT n (ttx g i) := by
  intro f
  induction f with
  | zero =>
    intro i hi hf
    exact ⟨0, rfl⟩
  | succ f ih =>
    intro i hi hf
    unfold spI
    by_cases h3 : tso g i = 3
    · obtain ⟨p, q, e1, e2, e3, e4, e5, e6⟩ := h.cat2 hi h3
      have hg1 : (tkd g i).getD 1 0 = q := by rw [e1]; rfl
      obtain ⟨n, hn⟩ := ih q (by omega) (by omega)
      refine ⟨n + 1, ?_⟩
      have hpts : pts (ttx g i) = [ttx g p, ttx g q] := by
        rw [e5]
        have := pts_mk (x := 3) (ps := [ttx g p, ttx g q]) rfl (fun t ht => by
          simp only [List.mem_cons, List.not_mem_nil, or_false] at ht
          rcases ht with rfl | rfl
          · exact h.wf (by omega)
          · exact h.wf (by omega))
        simpa using this
      unfold sT
      rw [if_pos h3, List.length_cons, hg1, hn, if_pos ((so_hd h hi (Or.inl rfl)).mp h3), hpts]
      show sT n (ttx g q) + 1 = 1 + sT n (ttx g q)
      omega
    · rw [if_neg h3]
      exact ⟨0, rfl⟩
/-- a derivative's spine -/
theorem spn_DS {g : TG} (h : TB g) {d c : Nat} {u : List Nat} (hd' : d < tU g) (wu : wf u) (e : ttx g d = DS c u) : spn g d ≤ u.length + 1 := by
  unfold spn
  obtain ⟨n, hn⟩ := spI_sT h d d hd' (Nat.le_refl _)
  rw [hn, e]
  exact (SB_DS u wu).top (wf_DS u wu) n
